/-! products and sums -/
theorem chain_m {n d w t0 : Nat} {fl : Bool} {B : Nat → Int} {sp : Nat → PR} (hw : (fl = false ∧ w = 2 ∧ t0 = 0) ∨ (fl = true ∧ w = 3 ∧ t0 = 1)) (hsub : CLm n B t0 sp d) : CLm n B (t0 + 1) (pT B w sp) d := by
  intro p k st h kk j Q P hst hkk hj hF hR
  have h1 : ¬ tmC (st.headD 0) := hst.1 (by omega)
  have h2 : fl = true → ¬ plC (st.headD 0) := fun e => by
    rcases hw with ⟨a, _, _⟩ | ⟨_, _, c⟩
    · rw [a] at e
      cases e
    · exact hst.2 (by omega)
  have loop : ∀ (m q : Nat) (v : Den) (h' : Hp) (k' : Nat) (pd : List Int) (kk' : Nat), n < q + m → PM h' n B q k' d (pd ++ st) → PDm (t0 + 1) h' k k' pd v → F5 h h' → KPm h h' k → k ≤ k' → p < q → SDm t0 (B q) → n + 2 ≤ kk' + q → pT B w sp p = pL B w sp m q v → OK (JLm kk' h') Q := by
    intro m
    induction m with
    | zero => intro q v h' k' pd kk' hq P'; have := P'.2.1; omega
    | succ m ih =>
      intro q v h' k' pd kk' hq P' pdm f5 kp hk hpq sd hkk' er
      have b := PM_B P' q
      have pb' := P'.2.1
      have wS : inSg w (B q) = true ↔ (if fl = true then plC (B q) else tmC (B q)) := by
        rcases hw with ⟨e1, e2, e3⟩ | ⟨e1, e2, e3⟩
        · rw [e1, e2]
          exact inSgT (by omega)
        · rw [e1, e2]
          exact inSgP (by omega)
      rw [pL_s] at er
      by_cases c : inSg w (B q) = true
      · rw [if_pos c] at er
        have cs := wS.mp c
        have hqn : q < n := PM_lt P' (fun z => by rw [z] at cs; split at cs <;> omega)
        obtain ⟨kk', rfl⟩ : ∃ m, kk' = m + 1 := ⟨kk' - 1, by omega⟩
        have t : if fl = true then SE h' k k' pd v else TE h' k k' pd v := by
          rcases hw with ⟨e1, e2, e3⟩ | ⟨e1, e2, e3⟩
          · subst e3
            rw [e1]
            exact pdm
          · subst e3
            rw [e1]
            exact pdm
        refine JL_op P' t cs h1 h2 (fun h3 k2 P3 f3 kp3 hk3 m3 => ?_)
        have sdc : SDm t0 (B q) := sd
        have fu : n + 2 ≤ FU + (q + 1) := by
          have : 1000 < FU := lt_FU (by omega)
          omega
        refine hsub (q + 1) k2 (B q :: st) h3 kk' FU Q P3 sdc (by omega) fu (fun f h4 e f4 bd => ?_) (fun r u h4 k4 pd4 kk4 e hr sd4 f4 kp4 hk4 P4 pdm4 hkk4 => ?_)
        · exact hF f h4 (by rw [er, e]) (F5_tr (F5_tr f5 f3) f4) bd
        · have s3 := m3.1
          have mv : MS (h4 177) (h4 178) k k2 v False := MS_cg (fun p' _ hp2 => kp4 p' hp2) m3
          refine ih r (vBin (B q) v u) h4 k4 (pd4 ++ [B q]) kk4 (by omega) (by rw [List.append_assoc]; exact P4) ?_ (F5_tr (F5_tr f5 f3) f4) (KP_tr (KP_tr kp kp3 (by omega)) kp4 (by omega)) (by omega) (by omega) sd4 hkk4 (by rw [er, e])
          rcases hw with ⟨e1, e2, e3⟩ | ⟨e1, e2, e3⟩
          · subst e3
            rw [e1, if_neg (by decide)] at cs
            obtain ⟨g1, g2⟩ := pdm4
            subst g1
            exact Or.inr ⟨B q, k2, v, u, rfl, cs, mv, g2, rfl⟩
          · subst e3
            rw [e1, if_pos rfl] at cs
            exact Or.inr ⟨B q, k2, v, u, pd4, rfl, cs, mv, pdm4, rfl⟩
      · rw [if_neg c] at er
        refine hR q v h' k' pd kk' er hpq ?_ f5 kp hk P' pdm hkk'
        have cs : ¬ (if fl = true then plC (B q) else tmC (B q)) := fun z => c (wS.mpr z)
        rcases hw with ⟨e1, e2, e3⟩ | ⟨e1, e2, e3⟩
        · subst e3
          rw [e1, if_neg (by decide)] at cs
          exact ⟨fun _ => cs, fun q => by omega⟩
        · subst e3
          rw [e1, if_pos rfl] at cs
          exact ⟨fun _ => sd.1 (by omega), fun _ => cs⟩
  refine hsub p k st h kk j Q P ⟨fun q => h1, fun q => hst.2 (by omega)⟩ hkk hj (fun f h' e f5 bd => ?_) (fun q v h' k' pd kk' e hpq sd f5 kp hk P' pdm hkk' => ?_)
  · refine hF f h' ?_ f5 bd
    unfold pT
    rw [e]
  · refine loop 200 q v h' k' pd kk' (by have := P'.2.1; omega) P' ?_ f5 kp hk hpq sd hkk' (by unfold pT; rw [e])
    rcases hw with ⟨e1, e2, e3⟩ | ⟨e1, e2, e3⟩
    · subst e3
      exact Or.inl pdm
    · subst e3
      exact Or.inl pdm
theorem E_m {n : Nat} {B : Nat → Int} : ∀ (k tag d : Nat), tag ≤ 2 → d ≤ 6 → 3 * (7 - d) + tag ≤ k + 2 → CLm n B tag (fun p => pE B k tag d p) d
  | 0, tag, d, h1, h2, h3 => by omega
  | k + 1, tag, d, h1, h2, h3 => by
    match tag, h1, h3 with
    | 0, h1, h3 => exact factor_m (fun hd => E_m k 2 (d + 1) (by omega) hd (by omega))
    | 1, h1, h3 => exact chain_m (fl := false) (w := 2) (t0 := 0) (Or.inl ⟨rfl, rfl, rfl⟩) (E_m k 0 d (by omega) h2 (by omega))
    | 2, h1, h3 => exact chain_m (fl := true) (w := 3) (t0 := 1) (Or.inr ⟨rfl, rfl, rfl⟩) (E_m k 1 d (by omega) h2 (by omega))
    | t + 3, h1, h3 => omega
/-- what the model's reading of an E leaves -/
theorem value_m {n p k d : Nat} {B : Nat → Int} {h : Hp} {st : List Int} (P : PM h n B p k d st) (h1 : ¬ tmC (st.headD 0)) (h2 : ¬ plC (st.headD 0)) (h3 : st.headD 0 ≠ 91) : OK (X12_value h) (fun h' => F5 h h' ∧ match pE B 60 2 d p with
    | .inl f => BDm f h'
    | .inr (q, v) => p < q ∧ ((B q = 93 ∧ BDm (-1000 - (q : Int)) h') ∨ (B q ≠ 93 ∧ ∃ k', PM h' n B q k' d st ∧ KPm h h' k ∧ k ≤ k' ∧ MS (h' 177) (h' 178) k k' v False))) := by
  have pb := P.2.1
  have e : X12_value h = HLm FU 1 (setH h 150 42 0) := by
    unfold HLm
    rw [← iter_eq]
    rfl
  have P2 := PM_42 (z := 0) P (j := 42) (by omega)
  obtain ⟨kk, hkk, hkk2⟩ : ∃ m, FU = m + 1 ∧ 999 ≤ m := ⟨FU - 1, by have : 1000 < FU := lt_FU (by omega); omega, by have : 1000 < FU := lt_FU (by omega); omega⟩
  rw [e, hkk, HL_go P2 (by rw [setH_s])]
  refine E_m 60 2 d (by omega) pb.2.2.2 (by omega) p k st _ kk FU _ P2 ⟨fun _ => h1, fun _ => h2⟩ (by omega) (by omega) (fun f h' er f5 bd => ?_) (fun q v h' k' pd kk' er hpq sd f5 kp hk P' pdm hkk' => ?_)
  · dsimp only at er
    rw [er]
    exact ⟨F5_tr (F5_s (by omega)) f5, bd⟩
  · dsimp only at er
    have pb' := P'.2.1
    obtain ⟨kk', rfl⟩ : ∃ m, kk' = m + 1 := ⟨kk' - 1, by omega⟩
    have fr : F5 h h' := F5_tr (F5_s (by omega)) f5
    have kp2 : KPm h h' k := KP_tr (KP_o (setH_o (by decide)) (setH_o (by decide))) kp (Nat.le_refl _)
    rw [er]
    by_cases c3 : B q = 93
    · exact JL_wrong P' pdm c3 h1 h2 h3 (fun h4 f4 bd => ⟨F5_tr fr f4, hpq, Or.inl ⟨c3, bd⟩⟩)
    · refine JL_end P' pdm (sd.1 (by omega)) (sd.2 (by omega)) c3 h1 h2 (fun h4 k4 P4 f4 kp4 hk4 m4 => ?_)
      rw [VT_o P4 h3, OK_some]
      exact ⟨F5_tr fr f4, hpq, Or.inr ⟨c3, k4, P4, KP_tr kp2 kp4 hk, by omega, m4⟩⟩
