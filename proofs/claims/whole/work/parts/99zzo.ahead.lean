/-! AHEAD on both sides -/
theorem tellX_s {x m : Hp} {P a b : Nat} (O : ROp x m P) (ha : a < 40) (hb : b < 40) : OK (iter (X5_tell_l2 (a : Int) (b : Int)) FU (0, x)) (fun r => (r = Sum.inl x ∧ ∃ q, q < P ∧ m 187 q = (a : Int) ∧ m 188 q = (b : Int)) ∨ (r = Sum.inr x ∧ ∀ q, q < P → ¬ (m 187 q = (a : Int) ∧ m 188 q = (b : Int)))) := by
  obtain ⟨o1, o2, o3, o4⟩ := O
  refine iter_up (fun p st => p ≤ P ∧ st = ((p : Int), x) ∧ ∀ q, q < p → ¬ (m 187 q = (a : Int) ∧ m 188 q = (b : Int))) _ P (by omega) (fun p st hp hI => ?_) ⟨Nat.zero_le _, rfl, fun q hq => absurd hq (Nat.not_lt_zero _)⟩
  obtain ⟨-, rfl, hq⟩ := hI
  have skip : ¬ (m 187 p = (a : Int) ∧ m 188 p = (b : Int)) → p < P → LQ (fun (s' : Int × Hp) => p < P ∧ (p + 1 ≤ P ∧ s' = (((p + 1 : Nat) : Int), x) ∧ ∀ q, q < p + 1 → ¬ (m 187 q = (a : Int) ∧ m 188 q = (b : Int)))) (fun r => (r = Sum.inl x ∧ ∃ q, q < P ∧ m 187 q = (a : Int) ∧ m 188 q = (b : Int)) ∨ (r = Sum.inr x ∧ ∀ q, q < P → ¬ (m 187 q = (a : Int) ∧ m 188 q = (b : Int)))) (Sum.inl ((p : Int) + 1, x)) := by
    intro h hpP
    rw [LQ_l]
    refine ⟨hpP, by omega, rfl, fun q q1 => ?_⟩
    by_cases e : q = p
    · rw [e]
      exact h
    · exact hq q (by omega)
  unfold X5_tell_l2 X5_tell_j20
  dsimp only
  simp only [o2, w32_id (z := (P : Int)) (by omega) (by omega), w32_id (z := (p : Int)) (by omega) (by omega), w32_id (z := (a : Int)) (by omega) (by omega), w32_id (z := (b : Int)) (by omega) (by omega)]
  refine OK_if (fun c => ?_) (fun c => ?_)
  · rw [OK_some, LQ_r]
    exact Or.inr ⟨rfl, fun q q1 => hq q (by omega)⟩
  · obtain ⟨⟨p1, p2⟩, p3, p4⟩ := o4 p (by omega)
    rw [at_e (a := 67) (n := 60) p rfl (by omega) (by omega), OK_bindE, OK_some, p1]
    simp only [w32_id (z := m 187 p) (by omega) (by omega)]
    refine OK_if (fun d => ?_) (fun d => ?_)
    · rw [OK_some]
      exact skip (fun q => d q.1) (by omega)
    · rw [at_e (a := 68) (n := 60) p rfl (by omega) (by omega), OK_bindE, OK_some, p2]
      simp only [w32_id (z := m 188 p) (by omega) (by omega)]
      refine OK_if (fun d2 => ?_) (fun d2 => ?_)
      · rw [OK_some]
        exact skip (fun q => d2 q.2) (by omega)
      · rw [OK_some, LQ_r]
        exact Or.inl ⟨rfl, p, by omega, by omega, by omega⟩
theorem tellM_s {x m : Hp} {P a b : Nat} (O : ROp x m P) (ha : a < 40) (hb : b < 40) : OK (iter (X12_ahead_l34 (a : Int) (b : Int)) FU (0, m)) (fun r => (r = Sum.inl m ∧ ∃ q, q < P ∧ m 187 q = (a : Int) ∧ m 188 q = (b : Int)) ∨ (r = Sum.inr m ∧ ∀ q, q < P → ¬ (m 187 q = (a : Int) ∧ m 188 q = (b : Int)))) := by
  obtain ⟨o1, o2, o3, o4⟩ := O
  refine iter_up (fun p st => p ≤ P ∧ st = ((p : Int), m) ∧ ∀ q, q < p → ¬ (m 187 q = (a : Int) ∧ m 188 q = (b : Int))) _ P (by omega) (fun p st hp hI => ?_) ⟨Nat.zero_le _, rfl, fun q hq => absurd hq (Nat.not_lt_zero _)⟩
  obtain ⟨-, rfl, hq⟩ := hI
  have skip : ¬ (m 187 p = (a : Int) ∧ m 188 p = (b : Int)) → p < P → LQ (fun (s' : Int × Hp) => p < P ∧ (p + 1 ≤ P ∧ s' = (((p + 1 : Nat) : Int), m) ∧ ∀ q, q < p + 1 → ¬ (m 187 q = (a : Int) ∧ m 188 q = (b : Int)))) (fun r => (r = Sum.inl m ∧ ∃ q, q < P ∧ m 187 q = (a : Int) ∧ m 188 q = (b : Int)) ∨ (r = Sum.inr m ∧ ∀ q, q < P → ¬ (m 187 q = (a : Int) ∧ m 188 q = (b : Int)))) (Sum.inl ((p : Int) + 1, m)) := by
    intro h hpP
    rw [LQ_l]
    refine ⟨hpP, by omega, rfl, fun q q1 => ?_⟩
    by_cases e : q = p
    · rw [e]
      exact h
    · exact hq q (by omega)
  unfold X12_ahead_l34 X12_ahead_j52
  dsimp only
  simp only [o3, w32_id (z := (P : Int)) (by omega) (by omega), w32_id (z := (p : Int)) (by omega) (by omega), w32_id (z := (a : Int)) (by omega) (by omega), w32_id (z := (b : Int)) (by omega) (by omega)]
  refine OK_if (fun c => ?_) (fun c => OK_gi (by omega) (by omega) (by omega) ?_)
  · rw [OK_some, LQ_r]
    exact Or.inr ⟨rfl, fun q q1 => hq q (by omega)⟩
  · obtain ⟨⟨p1, p2⟩, p3, p4⟩ := o4 p (by omega)
    simp only [tn, w32_id (z := m 187 p) (by omega) (by omega), w32_id (z := m 188 p) (by omega) (by omega)]
    refine OK_if (fun d => ?_) (fun d => OK_gi (by omega) (by omega) (by omega) (OK_if (fun d2 => ?_) (fun d2 => ?_)))
    · rw [OK_some]
      exact skip (fun q => d q.1) (by omega)
    · rw [OK_some]
      exact skip (fun q => d2 q.2) (by omega)
    · rw [OK_some, LQ_r]
      exact Or.inl ⟨rfl, p, by omega, by omega, by omega⟩
def cXA (e j : Nat) : Prop := (e = 66 ∧ (j = 2 ∨ j = 16)) ∨ e = 67 ∨ e = 68
def cMA (e j : Nat) : Prop := (e = 150 ∧ j = 75) ∨ e = 187 ∨ e = 188
theorem ahead_b {x m : Hp} (R : RS x m) {n P : Nat} (O : RO x m n P) {a b : Int} (ha : I32 a) (hb : I32 b) : OK (X11_ahead a b x) (fun z => OK (X12_ahead a b m) (fun w => z.1 = w.1 ∧ (∃ P', RO z.2 w.2 n P') ∧ (∀ e j, ¬ cXA e j → z.2 e j = x e j) ∧ ∀ e j, ¬ cMA e j → w.2 e j = m e j)) := by
  obtain ⟨⟨⟨-, e33, e39, e311⟩, -, ⟨-, e13, -⟩, -⟩, S⟩ := id R
  obtain ⟨⟨-, b3, b4, b5⟩, -, -, ⟨-, b161, -⟩, -, ⟨bb, -⟩⟩ := id S
  obtain ⟨⟨o1, o2, o3, o4⟩, o5⟩ := id O
  have c1 := b161 a.toNat
  have c2 := b161 b.toNat
  unfold X11_ahead X12_ahead X7_ofOneWork
  simp only [x_isB (h := x) (by omega) (by omega), m_isB (h := m) (by omega) (by omega), e311, I32_w ha, I32_w hb, Option.bind_some]
  have triv : (0 : Int) = 0 ∧ (∃ P', RO x m n P') ∧ (∀ e j, ¬ cXA e j → x e j = x e j) ∧ ∀ e j, ¬ cMA e j → m e j = m e j := ⟨rfl, ⟨P, O⟩, fun _ _ _ => rfl, fun _ _ _ => rfl⟩
  by_cases d1 : 0 ≤ a ∧ a < m 150 5
  · rw [if_pos d1]
    refine OK_gn (by decide) ?_
    rw [if_neg (show ¬ w32 1 = 0 by decide)]
    by_cases d2 : 0 ≤ b ∧ b < m 150 5
    · rw [if_pos d2]
      refine OK_gn (by decide) ?_
      rw [if_neg (show ¬ w32 1 = 0 by decide)]
      by_cases d3 : a = b
      · rw [if_pos d3, OK_some, if_pos d3, OK_some]
        exact triv
      · rw [if_neg d3, if_neg d3]
        obtain ⟨a, rfl⟩ := Int.eq_ofNat_of_zero_le d1.1
        obtain ⟨b, rfl⟩ := Int.eq_ofNat_of_zero_le d2.1
        rw [Int.toNat_natCast] at c1 c2
        simp only [bitWork_in (h := x) a (by omega) (by omega), bitWork_in (h := x) b (by omega) (by omega), Option.bind_some, e13, o3, w32_id (z := (P : Int)) (by omega) (by omega), w32_id (z := m 161 a) (by omega) (by omega), w32_id (z := m 161 b) (by omega) (by omega), show w32 (-1) = -1 from rfl, show w32 60 = 60 from rfl, tn]
        have nM : ∀ (w : Option (Int × Hp)), w = some (0, m) → OK w (fun w => (0 : Int) = w.1 ∧ (∃ P', RO x w.2 n P') ∧ (∀ e j, ¬ cXA e j → x e j = x e j) ∧ ∀ e j, ¬ cMA e j → w.2 e j = m e j) := fun w hw => by
          rw [hw, OK_some]
          exact triv
        by_cases d4 : m 161 a = -1
        · rw [if_pos d4, Option.bind_some, if_pos (show w32 0 = 0 from rfl), OK_some]
          refine nM _ ?_
          by_cases d5 : (P : Int) = 60
          · rw [if_pos d5]
          · rw [if_neg d5, if_pos (inb_t (v := (a : Int)) (n := 40) (by omega) (by omega) (by omega)), if_pos d4]
        · rw [if_neg d4]
          by_cases d6 : m 161 a = m 161 b
          · rw [if_neg (fun q => q d6), Option.bind_some, if_neg (show ¬ w32 1 = 0 by decide)]
            unfold X5_tell
            rw [OK_bindE, OK_bindE]
            refine OK_mono (tellX_s (a := a) (b := b) O.1 (by omega) (by omega)) (fun r hr => ?_)
            obtain ⟨s, es, hs⟩ := OK_ex (tellM_s (a := a) (b := b) O.1 (by omega) (by omega))
            rcases hr with ⟨rfl, r2⟩ | ⟨rfl, r2⟩
            · rw [OK_some, if_pos (show w32 0 = 0 from rfl), OK_some]
              refine nM _ ?_
              by_cases d5 : (P : Int) = 60
              · rw [if_pos d5]
              · rw [if_neg d5, if_pos (inb_t (v := (a : Int)) (n := 40) (by omega) (by omega) (by omega)), if_neg d4, if_pos (inb_t (v := (a : Int)) (n := 40) (by omega) (by omega) (by omega)), if_pos (inb_t (v := (b : Int)) (n := 40) (by omega) (by omega) (by omega)), if_pos d6, es]
                rcases hs with ⟨rfl, s2⟩ | ⟨rfl, s2⟩
                · rfl
                · obtain ⟨q, q1, q2⟩ := r2
                  exact absurd q2 (s2 q q1)
            · dsimp only
              simp only [o2, w32_id (z := (P : Int)) (by omega) (by omega), show w32 60 = 60 from rfl]
              by_cases d5 : (P : Int) = 60
              · rw [if_neg (show ¬ (P : Int) < 60 by omega), OK_some, if_pos (show w32 0 = 0 from rfl), OK_some]
                refine nM _ ?_
                rw [if_pos d5]
              · rw [if_pos (show (P : Int) < 60 by omega), put_e (a := 67) (n := 60) P rfl (by omega) (by omega), Option.bind_some]
                unfold X5_forget
                rw [put_e (a := 68) (n := 60) P (by rw [setH_o (by decide), o2]) (by omega) (by omega), Option.bind_some, Option.bind_some, OK_some, if_neg (show ¬ w32 1 = 0 by decide), OK_some]
                rw [if_neg d5, if_pos (inb_t (v := (a : Int)) (n := 40) (by omega) (by omega) (by omega)), if_neg d4, if_pos (inb_t (v := (a : Int)) (n := 40) (by omega) (by omega) (by omega)), if_pos (inb_t (v := (b : Int)) (n := 40) (by omega) (by omega) (by omega)), if_pos d6, es, Option.bind_some]
                rcases hs with ⟨rfl, s2⟩ | ⟨rfl, s2⟩
                · obtain ⟨q, q1, q2⟩ := s2
                  exact absurd q2 (r2 q q1)
                · dsimp only
                  simp only [o3]
                  refine OK_gi (by omega) (by omega) (by omega) (OK_gi (by omega) (by omega) (by omega) ?_)
                  simp only [wtn P rfl (by omega)]
                  rw [OK_some]
                  refine ⟨rfl, ⟨P + 1, ⟨by omega, ?_, ?_, fun q hq => ?_⟩, Or.inl ?_⟩, fun e j q => ?_, fun e j q => ?_⟩
                  · rw [setH_n (by decide), setH_s, setH_o (by decide), setH_o (by decide), o2]
                    rfl
                  · dsimp only
                    rw [setH_s]
                    rfl
                  · by_cases e : q = P
                    · subst e
                      have g1 : ∀ v : Int, (setH (setH (setH (setH x 67 q (a : Int)) 68 q (b : Int)) 66 2 v) 66 16 (-1)) 67 q = (a : Int) := fun v => by rw [setH_o (by decide), setH_o (by decide), setH_o (by decide), setH_s]
                      have g2 : ∀ v : Int, (setH (setH (setH (setH x 67 q (a : Int)) 68 q (b : Int)) 66 2 v) 66 16 (-1)) 68 q = (b : Int) := fun v => by rw [setH_o (by decide), setH_o (by decide), setH_s]
                      have g3 : ∀ v : Int, (setH (setH (setH m 187 q (a : Int)) 188 q (b : Int)) 150 75 v) 187 q = (a : Int) := fun v => by rw [setH_o (by decide), setH_o (by decide), setH_s]
                      have g4 : ∀ v : Int, (setH (setH (setH m 187 q (a : Int)) 188 q (b : Int)) 150 75 v) 188 q = (b : Int) := fun v => by rw [setH_o (by decide), setH_s]
                      simp only [g1, g2, g3, g4, true_and]
                      exact ⟨⟨by omega, by omega⟩, ⟨by omega, by omega⟩⟩
                    · have g1 : ∀ v : Int, (setH (setH (setH (setH x 67 P (a : Int)) 68 P (b : Int)) 66 2 v) 66 16 (-1)) 67 q = x 67 q := fun v => by rw [setH_o (by decide), setH_o (by decide), setH_o (by decide), setH_n e]
                      have g2 : ∀ v : Int, (setH (setH (setH (setH x 67 P (a : Int)) 68 P (b : Int)) 66 2 v) 66 16 (-1)) 68 q = x 68 q := fun v => by rw [setH_o (by decide), setH_o (by decide), setH_n e, setH_o (by decide)]
                      have g3 : ∀ v : Int, (setH (setH (setH m 187 P (a : Int)) 188 P (b : Int)) 150 75 v) 187 q = m 187 q := fun v => by rw [setH_o (by decide), setH_o (by decide), setH_n e]
                      have g4 : ∀ v : Int, (setH (setH (setH m 187 P (a : Int)) 188 P (b : Int)) 150 75 v) 188 q = m 188 q := fun v => by rw [setH_o (by decide), setH_n e, setH_o (by decide)]
                      simp only [g1, g2, g3, g4]
                      exact o4 q (by omega)
                  · rw [setH_s]
                  · unfold cXA at q
                    rw [setH_f (by omega), setH_f (by omega), setH_o (by omega), setH_o (by omega)]
                  · unfold cMA at q
                    dsimp only
                    rw [setH_f (by omega), setH_o (by omega), setH_o (by omega)]
          · rw [if_pos (show m 161 a ≠ m 161 b from d6), Option.bind_some, if_pos (show w32 0 = 0 from rfl), OK_some]
            refine nM _ ?_
            by_cases d5 : (P : Int) = 60
            · rw [if_pos d5]
            · rw [if_neg d5, if_pos (inb_t (v := (a : Int)) (n := 40) (by omega) (by omega) (by omega)), if_neg d4, if_pos (inb_t (v := (a : Int)) (n := 40) (by omega) (by omega) (by omega)), if_pos (inb_t (v := (b : Int)) (n := 40) (by omega) (by omega) (by omega)), if_neg d6]
    · rw [if_neg d2]
      refine OK_gd rfl ?_
      rw [OK_some, if_pos (show w32 0 = 0 from rfl), OK_some]
      exact triv
  · rw [if_neg d1]
    refine OK_gd rfl ?_
    rw [OK_some, if_pos (show w32 0 = 0 from rfl), OK_some]
    exact triv
