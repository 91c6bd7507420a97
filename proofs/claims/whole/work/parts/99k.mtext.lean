/-- what reading of the clauses leaves in the model -/
def RWm (n : Nat) (B : Nat → Int) (h : Hp) (r : Int ⊕ List CL) (h' : Hp) : Prop := F7 h h' ∧ match r with
  | .inl f => BDm f h'
  | .inr l => (1 ≤ l.length ∧ l.length ≤ 12) ∧ h' 150 36 = 0 ∧ h' 150 37 = (l.length : Int) ∧ ∃ k : Nat, k ≤ 160 ∧ h' 150 38 = (k : Int) ∧ DKm h' k ∧ KMm h' l k
def pV (B : Nat → Int) (w n i q : Nat) (l : List CL) : Int ⊕ List CL := match pK B w l.length q with
  | .inl f => .inl f
  | .inr (q', c) => pA B w n (12 - i) q' (l ++ [c])
theorem clauses_m {T n : Nat} {B : Nat → Int} {h : Hp} (hT : T ≤ 10) (P : QM h n B 0 0) (hc : h 150 37 = 0) : OK (iter (X12_readsText_l32 (T : Int)) FU (1, h)) (RWm n B h (pW B (wdT T) n)) := by
  refine iter_up (fun i s => i ≤ 14 ∧ ∃ (w : Int) (h' : Hp), s = (w, h') ∧ F7 h h' ∧ ((∃ (q k : Nat) (l : List CL), w = 1 ∧ l.length = i ∧ i ≤ 12 ∧ QM h' n B q k ∧ h' 150 37 = (l.length : Int) ∧ KMm h' l k ∧ pW B (wdT T) n = pV B (wdT T) n i q l) ∨ (w = 0 ∧ RWm n B h (pW B (wdT T) n) h') ∨ ((w = 0 ∨ w = 1) ∧ ∃ f, BDm f h' ∧ pW B (wdT T) n = .inl f))) _ 14 (by omega) (fun i s hi hI => ?_) ⟨by omega, 1, h, rfl, F7_rf, Or.inl ⟨0, 0, [], rfl, rfl, by omega, P, hc, fun i c hi => (by cases hi), by
    unfold pW pV
    rfl⟩⟩
  obtain ⟨hi1, w, h', rfl, fr, hh⟩ := hI
  unfold X12_readsText_l32 X12_readsText_j50 X12_readsText_j51 X12_readsText_j63
  (try dsimp only)
  rcases hh with ⟨q, k, l, rfl, hl, hi12, P', hc', K', ep⟩ | ⟨rfl, hr⟩ | ⟨hw, f, bd, ep⟩
  · refine OK_gn (by decide) ?_
    rw [good_q P', OK_bindE, OK_some]
    refine OK_gn (by decide) ?_
    rw [OK_bindE]
    refine OK_mono (clause_m hT P' hc' (by omega) K') (fun y hy => ?_)
    obtain ⟨y1, y2⟩ := hy
    unfold pV at ep
    have f2 := F7_tr fr y1
    cases ek : pK B (wdT T) l.length q with
    | inl f =>
      rw [ek] at y2 ep
      rw [good_f (BD_ne y2), OK_bindE, OK_some]
      refine OK_gd (by decide) (OK_gd (by decide) ?_)
      rw [OK_some, LQ_l]
      exact ⟨by omega, by omega, 0, y, rfl, f2, Or.inr (Or.inr ⟨Or.inl rfl, f, y2, ep⟩)⟩
    | inr z =>
      obtain ⟨q', c⟩ := z
      rw [ek] at y2 ep
      obtain ⟨y3, y4, k', Q, y37, Ky⟩ := y2
      have b := QM_B Q q'
      have pq := Q.2.1
      have p2 := Q.1.2.1
      have p1 := Q.1.1
      have len : (l ++ [c]).length = l.length + 1 := by rw [List.length_append]; rfl
      dsimp only at ep
      rw [good_q Q, OK_bindE, OK_some]
      refine OK_gn (by decide) ?_
      rw [show 12 - i = (11 - i) + 1 by omega] at ep
      replace ep := ep.trans (pA_s B (wdT T) n (11 - i) q' (l ++ [c]))
      have wn := w32_id (z := (n : Int)) (by omega) (by omega)
      have wq := w32_id (z := (q' : Int)) (by omega) (by omega)
      by_cases e : n ≤ q'
      · rw [if_pos e] at ep
        refine OK_gd (by rw [p1, p2, wn, wq]; omega) (OK_gd (by decide) ?_)
        rw [OK_some, LQ_l]
        refine ⟨by omega, by omega, 0, y, rfl, f2, Or.inr (Or.inl ⟨rfl, ?_⟩)⟩
        rw [ep]
        exact ⟨f2, by omega, Q.1.2.2.1, by rw [len]; exact y37, k', by omega, Q.1.2.2.2, Q.2.2.2, Ky⟩
      · rw [if_neg e] at ep
        refine OK_gn (by rw [p1, p2, wn, wq]; omega) (OK_gn (by decide) ?_)
        rw [here_q Q, OK_bindE, OK_some]
        by_cases e2 : B q' = 59
        · rw [if_pos e2] at ep
          refine OK_gd (by rw [e2]) ?_
          rw [OK_some, LQ_l]
          have Q2 : QM (setH y 150 34 (y 150 34 + 1)) n B (q' + 1) k' := by
            obtain ⟨⟨a1, a2, a3, a4⟩, a5, a6, a7⟩ := Q
            refine ⟨⟨?_, ?_, ?_, ?_⟩, by omega, ?_, ?_⟩
            · rw [setH_s, a1]
              rfl
            · rw [setH_n (by decide)]
              exact a2
            · rw [setH_n (by decide)]
              exact a3
            · rw [setH_n (by decide)]
              exact a4
            · rw [setH_o (by decide)]
              exact a6
            · unfold DKm
              rw [setH_o (by decide), setH_o (by decide)]
              exact a7
          refine ⟨by omega, by omega, 1, _, rfl, F7_tr f2 (F7_s (by omega)), Or.inl ⟨q' + 1, k', l ++ [c], rfl, by omega, by omega, Q2, ?_, ?_, ?_⟩⟩
          · rw [setH_n (by decide), len]
            exact y37
          · unfold KMm
            simp (disch := decide) only [setH_o]
            exact Ky
          · rw [ep]
            unfold pV
            rw [show 12 - (i + 1) = 11 - i by omega]
            cases pK B (wdT T) (l ++ [c]).length (q' + 1) <;> rfl
        · rw [if_neg e2] at ep
          refine OK_gn (by rw [w32_id (by omega) (by omega)]; exact e2) ?_
          obtain ⟨w1, w2, w3, w4⟩ := wrongs_q Q (c := 1) (by omega)
          have w1' : X12_wrongs 1 (y 150 34) y = some (setH y 150 36 (-1000 * 1 - (q' : Int))) := w1
          rw [w1', OK_bindE, OK_some, OK_some, LQ_l]
          refine ⟨by omega, by omega, 1, _, rfl, F7_tr f2 (F7_tr (F7_s (by omega)) (F7_s (by omega))), Or.inr (Or.inr ⟨Or.inr rfl, _, ⟨?_, by omega, by omega⟩, ep⟩)⟩
          rw [setH_n (by decide), setH_s]
          omega
  · refine OK_gd (by decide) ?_
    rw [OK_some, LQ_r]
    exact hr
  · have fin : RWm n B h (pW B (wdT T) n) h' := by
      rw [ep]
      exact ⟨fr, bd⟩
    refine OK_if (fun c => ?_) (fun c => ?_)
    · rw [OK_some, LQ_r]
      exact fin
    · rw [good_f (BD_ne bd), OK_bindE, OK_some]
      refine OK_gd (by decide) ?_
      rw [OK_some, LQ_r]
      exact fin
theorem mrn_sh {cd ar : Nat → Int} {ρ : Int → Int} (s : Nat) : ∀ (n p : Nat) (st : List (Int × Bool)), mrn (fun i => cd (i + s)) (fun i => ar (i + s)) ρ n p st = mrn cd ar ρ n (p + s) st
  | 0, p, st => rfl
  | n + 1, p, st => by
    show (mst (fun i => cd (i + s)) (fun i => ar (i + s)) ρ p st).bind (mrn (fun i => cd (i + s)) (fun i => ar (i + s)) ρ n (p + 1)) = (mst cd ar ρ (p + s) st).bind (mrn cd ar ρ n (p + s + 1))
    have e : mst (fun i => cd (i + s)) (fun i => ar (i + s)) ρ p st = mst cd ar ρ (p + s) st := rfl
    rw [e]
    cases mst cd ar ρ (p + s) st with
    | none => rfl
    | some r =>
      show mrn _ _ ρ n (p + 1) r = mrn cd ar ρ n (p + s + 1) r
      rw [mrn_sh s n (p + 1) r, show p + 1 + s = p + s + 1 by omega]
theorem MS_sh {cd ar cd2 ar2 : Nat → Int} {a b s : Nat} {v : Den} {C : Prop} (h : ∀ p, a ≤ p → p < b → cd2 (p + s) = cd p ∧ ar2 (p + s) = ar p) (m : MS cd ar a b v C) : MS cd2 ar2 (a + s) (b + s) v C := by
  have l := m.1
  refine ⟨by omega, fun cd' ar' he ρ ρX st hρ => ?_⟩
  have := m.2 (fun i => cd' (i + s)) (fun i => ar' (i + s)) (fun p h1 h2 => ⟨(he (p + s) (by omega) (by omega)).1.trans (h p h1 h2).1, (he (p + s) (by omega) (by omega)).2.trans (h p h1 h2).2⟩) ρ ρX st hρ
  rw [mrn_sh] at this
  rw [show b + s - (a + s) = b - a by omega]
  exact this
/-- text T of the model -/
def TMm (m : Hp) (T : Nat) (l : List CL) : Prop := m 166 T = (l.length : Int) ∧ ∀ i c, l[i]? = some c → ∃ a b e : Nat, (m 167 (12 * T + i) = c.1 ∧ 0 ≤ c.1 ∧ c.1 ≤ 255) ∧ (m 168 (12 * T + i) = (a : Int) ∧ m 169 (12 * T + i) = (b : Int) ∧ m 170 (12 * T + i) = (e : Int)) ∧ (160 * T ≤ a ∧ e ≤ 160 * T + 160) ∧ MS (m 171) (m 172) a b c.2.1 False ∧ MS (m 171) (m 172) b e c.2.2 True
theorem reads_t {T n : Nat} {h : Hp} (hT : T ≤ 10) (hn : 1 ≤ n ∧ n ≤ 160) (h1 : (n : Int) ≤ h 150 1) (h1' : h 150 1 ≤ 200) (hC : CKm h) : OK (X12_readsText (T : Int) (n : Int) h) (fun z => z.2 150 1 = 0 ∧ CKm z.2 ∧ (∀ c j, ¬ (c = 150 ∧ (j = 1 ∨ (34 ≤ j ∧ j ≤ 42))) → ¬ (166 ≤ c ∧ c ≤ 179) → z.2 c j = h c j) ∧ ((∀ j, j ≠ T → z.2 166 j = h 166 j) ∧ (∀ c j, 167 ≤ c → c ≤ 170 → ¬ (12 * T ≤ j ∧ j < 12 * T + 12) → z.2 c j = h c j) ∧ (∀ c j, 171 ≤ c → c ≤ 172 → ¬ (160 * T ≤ j ∧ j < 160 * T + 160) → z.2 c j = h c j)) ∧ match pW (fun j => if j < n then h 151 j % 256 else 0) (wdT T) n with
    | .inl f => z.1 = f ∧ (-100000 ≤ f ∧ f < 0) ∧ (∀ c, 166 ≤ c → c ≤ 172 → z.2 c = h c)
    | .inr l => z.1 = (l.length : Int) ∧ (1 ≤ l.length ∧ l.length ≤ 12) ∧ TMm z.2 T l) := by
  unfold X12_readsText
  rw [w32_id (z := (n : Int)) (by omega) (by omega), lies_in (by omega) (by omega) (by omega) (by omega) (by omega) (by omega), OK_bindE, OK_some, if_pos (show (1 : Int) ≤ (n : Int) ∧ (n : Int) ≤ 160 by omega)]
  refine OK_gn (by decide) (OK_gd (by rw [w32_id (by omega) (by omega)]; exact h1) ?_)
  generalize hg : setH (setH (setH (setH (setH (setH h 150 1 0) 150 34 0) 150 35 (n : Int)) 150 36 0) 150 37 0) 150 38 0 = g
  have go : ∀ c j, ¬ (c = 150 ∧ (j = 1 ∨ (34 ≤ j ∧ j ≤ 38))) → g c j = h c j := fun c j hn => by
    rw [← hg, setH_f (by omega), setH_f (by omega), setH_f (by omega), setH_f (by omega), setH_f (by omega), setH_f (by omega)]
  have goc : ∀ c, c ≠ 150 → g c = h c := fun c hc => funext fun j => go c j (by omega)
  have P0 : QM g n (fun j => if j < n then h 151 j % 256 else 0) 0 0 := by
    refine ⟨⟨?_, ?_, ?_, ?_⟩, by omega, ?_, fun j hj => by omega⟩
    · rw [← hg]
      simp (disch := decide) only [setH_s, setH_n]
      rfl
    · rw [← hg]
      simp (disch := decide) only [setH_s, setH_n]
    · rw [← hg]
      simp (disch := decide) only [setH_s, setH_n]
    · rw [← hg]
      simp (disch := decide) only [setH_s, setH_n]
      rfl
    · intro j
      rw [goc 151 (by decide)]
  have g37 : g 150 37 = 0 := by
    rw [← hg]
    simp (disch := decide) only [setH_s, setH_n]
  have g1 : g 150 1 = 0 := by
    rw [← hg]
    simp (disch := decide) only [setH_s, setH_n]
  rw [OK_bindE]
  refine OK_mono (clauses_m hT P0 g37) (fun y hy => ?_)
  obtain ⟨y1, y2⟩ := hy
  have yo : ∀ c j, ¬ (c = 150 ∧ (j = 1 ∨ (34 ≤ j ∧ j ≤ 42))) → ¬ (173 ≤ c ∧ c ≤ 179) → y c j = h c j := fun c j h1 h2 => (y1 c j (by omega) h2).trans (go c j (by omega))
  have y11 : y 150 1 = 0 := (y1 150 1 (by omega) (by omega)).trans g1
  have yoc : ∀ c, 166 ≤ c → c ≤ 172 → y c = h c := fun c h1 h2 => funext fun j => yo c j (by omega) (by omega)
  cases er : pW (fun j => if j < n then h 151 j % 256 else 0) (wdT T) n with
  | inl f =>
    rw [er] at y2
    obtain ⟨b1, b2, b3⟩ := y2
    refine OK_gn (by rw [b1, w32_id (by omega) (by omega)]; omega) ?_
    rw [OK_some]
    dsimp only
    refine ⟨y11, by unfold CKm; rw [yoc 171 (by decide) (by decide), yoc 172 (by decide) (by decide)]; exact hC, fun c j h1 h2 => yo c j h1 (by omega), ⟨fun j _ => by rw [yoc 166 (by decide) (by decide)], fun c j h1 h2 _ => by rw [yoc c (by omega) (by omega)], fun c j h1 h2 _ => by rw [yoc c (by omega) (by omega)]⟩, b1, ⟨b2, b3⟩, yoc⟩
  | inr l =>
    rw [er] at y2
    obtain ⟨hl, y36, y37, k, hk, y38, dk, km⟩ := y2
    refine OK_gd (by rw [y36]; decide) ?_
    rw [OK_bindE]
    refine OK_mono (iter_up (fun i s => i ≤ l.length ∧ ∃ u : Hp, s = ((i : Int), u) ∧ (∀ c j, ¬ (167 ≤ c ∧ c ≤ 170 ∧ 12 * T ≤ j ∧ j < 12 * T + 12) → u c j = y c j) ∧ ∀ e, e < i → u 167 (12 * T + e) = y 173 e ∧ u 168 (12 * T + e) = 160 * (T : Int) + y 174 e ∧ u 169 (12 * T + e) = 160 * (T : Int) + y 175 e ∧ u 170 (12 * T + e) = 160 * (T : Int) + y 176 e) (fun u : Hp => (∀ c j, ¬ (167 ≤ c ∧ c ≤ 170 ∧ 12 * T ≤ j ∧ j < 12 * T + 12) → u c j = y c j) ∧ ∀ e, e < l.length → u 167 (12 * T + e) = y 173 e ∧ u 168 (12 * T + e) = 160 * (T : Int) + y 174 e ∧ u 169 (12 * T + e) = 160 * (T : Int) + y 175 e ∧ u 170 (12 * T + e) = 160 * (T : Int) + y 176 e) l.length (by omega) (fun i s hi hI => ?_) ⟨by omega, y, rfl, fun _ _ _ => rfl, fun e he => by omega⟩) (fun u hu => ?_)
    · obtain ⟨-, u, rfl, uo, ue⟩ := hI
      have u37 : u 150 37 = (l.length : Int) := (uo 150 37 (by omega)).trans y37
      unfold X12_readsText_l78
      (try dsimp only)
      have wi := w32_id (z := (i : Int)) (by omega) (by omega)
      have e12 : 12 * (T : Int) + (i : Int) = ((12 * T + i : Nat) : Int) := by omega
      refine OK_if (fun c => ?_) (fun c => ?_)
      · rw [u37, w32_id (by omega) (by omega), wi] at c
        have ei : i = l.length := by omega
        subst ei
        rw [OK_some, LQ_r]
        exact ⟨uo, ue⟩
      · rw [u37, w32_id (by omega) (by omega), wi] at c
        have w12 : (w32 ((12 * T + i : Nat) : Int)).toNat = 12 * T + i := wtn _ rfl (by omega)
        have wi2 : (w32 (i : Int)).toNat = i := wtn _ rfl (by omega)
        simp only [e12, w12, wi2]
        refine OK_gi (by omega) (by omega) (by omega) (OK_gi (by omega) (by omega) (by omega) (OK_gi (by omega) (by omega) (by omega) (OK_gi (by omega) (by omega) (by omega) (OK_gi (by omega) (by omega) (by omega) (OK_gi (by omega) (by omega) (by omega) (OK_gi (by omega) (by omega) (by omega) (OK_gi (by omega) (by omega) (by omega) ?_)))))))
        rw [OK_some, LQ_l]
        refine ⟨by omega, by omega, _, rfl, fun c j hn => ?_, fun e he => ?_⟩
        · rw [setH_f (by omega), setH_f (by omega), setH_f (by omega), setH_f (by omega)]
          exact uo c j hn
        · have u3 : u 173 i = y 173 i ∧ u 174 i = y 174 i ∧ u 175 i = y 175 i ∧ u 176 i = y 176 i := ⟨uo _ _ (by omega), uo _ _ (by omega), uo _ _ (by omega), uo _ _ (by omega)⟩
          by_cases ei : e = i
          · subst ei
            refine ⟨?_, ?_, ?_, ?_⟩
            · simp (disch := decide) only [setH_o, setH_s]
              exact u3.1
            · simp (disch := decide) only [setH_o, setH_s]
              rw [u3.2.1]
            · simp (disch := decide) only [setH_o, setH_s]
              rw [u3.2.2.1]
            · simp (disch := decide) only [setH_o, setH_s]
              rw [u3.2.2.2]
          · have := ue e (by omega)
            rw [setH_f (by omega), setH_f (by omega), setH_f (by omega), setH_f (by omega), setH_f (by omega), setH_f (by omega), setH_f (by omega), setH_f (by omega), setH_f (by omega), setH_f (by omega), setH_f (by omega), setH_f (by omega), setH_f (by omega), setH_f (by omega), setH_f (by omega), setH_f (by omega)]
            exact this
    · obtain ⟨uo, ue⟩ := hu
      have u38 : u 150 38 = (k : Int) := (uo 150 38 (by omega)).trans y38
      rw [OK_bindE]
      refine OK_mono (iter_up (fun i s => i ≤ k ∧ ∃ v : Hp, s = ((i : Int), v) ∧ (∀ c j, ¬ (171 ≤ c ∧ c ≤ 172 ∧ 160 * T ≤ j ∧ j < 160 * T + 160) → v c j = u c j) ∧ (∀ e, e < i → v 171 (160 * T + e) = y 177 e ∧ v 172 (160 * T + e) = y 178 e) ∧ CKm v) (fun v : Hp => (∀ c j, ¬ (171 ≤ c ∧ c ≤ 172 ∧ 160 * T ≤ j ∧ j < 160 * T + 160) → v c j = u c j) ∧ (∀ e, e < k → v 171 (160 * T + e) = y 177 e ∧ v 172 (160 * T + e) = y 178 e) ∧ CKm v) k (by omega) (fun i s hi hI => ?_) ⟨by omega, u, rfl, fun _ _ _ => rfl, fun e he => by omega, ?_⟩) (fun v hv => ?_)
      · obtain ⟨-, v, rfl, vo, ve, vc⟩ := hI
        have v38 : v 150 38 = (k : Int) := (vo 150 38 (by omega)).trans u38
        unfold X12_readsText_l146
        (try dsimp only)
        have wi := w32_id (z := (i : Int)) (by omega) (by omega)
        have e12 : 160 * (T : Int) + (i : Int) = ((160 * T + i : Nat) : Int) := by omega
        refine OK_if (fun c => ?_) (fun c => ?_)
        · rw [v38, w32_id (by omega) (by omega), wi] at c
          have ei : i = k := by omega
          subst ei
          rw [OK_some, LQ_r]
          exact ⟨vo, ve, vc⟩
        · rw [v38, w32_id (by omega) (by omega), wi] at c
          have w12 : (w32 ((160 * T + i : Nat) : Int)).toNat = 160 * T + i := wtn _ rfl (by omega)
          have wi2 : (w32 (i : Int)).toNat = i := wtn _ rfl (by omega)
          simp only [e12, w12, wi2]
          refine OK_gi (by omega) (by omega) (by omega) (OK_gi (by omega) (by omega) (by omega) (OK_gi (by omega) (by omega) (by omega) (OK_gi (by omega) (by omega) (by omega) ?_)))
          rw [OK_some, LQ_l]
          have u3 : v 177 i = y 177 i ∧ v 178 i = y 178 i := ⟨(vo _ _ (by omega)).trans (uo _ _ (by omega)), (vo _ _ (by omega)).trans (uo _ _ (by omega))⟩
          have di := dk i (by omega)
          refine ⟨by omega, by omega, _, rfl, fun c j hn => ?_, fun e he => ?_, ?_⟩
          · rw [setH_f (by omega), setH_f (by omega)]
            exact vo c j hn
          · by_cases ei : e = i
            · subst ei
              simp (disch := decide) only [setH_o, setH_s]
              exact u3
            · rw [setH_f (by omega), setH_f (by omega), setH_f (by omega), setH_f (by omega)]
              exact ve e (by omega)
          · refine ⟨fun p => ?_, fun p => ?_⟩
            · rw [setH_o (by decide), setH_at]
              split
              · rw [u3.1]
                exact di.1
              · exact vc.1 p
            · rw [setH_at]
              split
              · rw [u3.2]
                exact di.2
              · rw [setH_o (by decide)]
                exact vc.2 p
      · unfold CKm
        rw [show u 171 = h 171 from funext fun j => (uo 171 j (by omega)).trans (yo 171 j (by omega) (by omega)), show u 172 = h 172 from funext fun j => (uo 172 j (by omega)).trans (yo 172 j (by omega) (by omega))]
        exact hC
      · obtain ⟨vo, ve, vc⟩ := hv
        have v37 : v 150 37 = (l.length : Int) := (vo 150 37 (by omega)).trans ((uo 150 37 (by omega)).trans y37)
        refine OK_gi (by omega) (by omega) (by omega) ?_
        rw [OK_some, v37, wtn T rfl (by omega)]
        refine ⟨?_, ?_, fun c j h1 h2 => ?_, ⟨fun j hj => ?_, fun c j h1 h2 h3 => ?_, fun c j h1 h2 h3 => ?_⟩, rfl, hl, ?_⟩
        · show setH v 166 T (l.length : Int) 150 1 = 0
          rw [setH_o (by decide), vo 150 1 (by omega), uo 150 1 (by omega)]
          exact y11
        · show CKm (setH v 166 T (l.length : Int))
          unfold CKm
          rw [setH_o (by decide), setH_o (by decide)]
          exact vc
        · show setH v 166 T (l.length : Int) c j = h c j
          rw [setH_f (by omega), vo c j (by omega), uo c j (by omega)]
          exact yo c j h1 (by omega)
        · show setH v 166 T (l.length : Int) 166 j = h 166 j
          rw [setH_n hj, vo 166 j (by omega), uo 166 j (by omega)]
          exact yo 166 j (by omega) (by omega)
        · show setH v 166 T (l.length : Int) c j = h c j
          rw [setH_f (by omega), vo c j (by omega), uo c j (by omega)]
          exact yo c j (by omega) (by omega)
        · show setH v 166 T (l.length : Int) c j = h c j
          rw [setH_f (by omega), vo c j (by omega), uo c j (by omega)]
          exact yo c j (by omega) (by omega)
        · refine ⟨setH_s, fun i c hi => ?_⟩
          have hil := (List.getElem?_eq_some_iff.mp hi).1
          obtain ⟨a, b, e, ⟨r1, r2, r3⟩, ⟨r4, r5, r6⟩, r7, r8, r9⟩ := km i c hi
          have t8' := r8.1
          have t9' := r9.1
          obtain ⟨w1, w2, w3, w4⟩ := ue i hil
          simp (disch := decide) only [setH_o]
          have vu : ∀ c, 167 ≤ c → c ≤ 170 → v c (12 * T + i) = u c (12 * T + i) := fun c h1 h2 => vo c _ (by omega)
          refine ⟨a + 160 * T, b + 160 * T, e + 160 * T, ⟨?_, r2, r3⟩, ⟨?_, ?_, ?_⟩, by omega, MS_sh (s := 160 * T) (fun p h1 h2 => ?_) r8, MS_sh (s := 160 * T) (fun p h1 h2 => ?_) r9⟩
          · rw [vu 167 (by decide) (by decide), w1]
            exact r1
          · rw [vu 168 (by decide) (by decide), w2, r4]
            omega
          · rw [vu 169 (by decide) (by decide), w3, r5]
            omega
          · rw [vu 170 (by decide) (by decide), w4, r6]
            omega
          · rw [Nat.add_comm p]
            exact ve p (by omega)
          · rw [Nat.add_comm p]
            exact ve p (by omega)
