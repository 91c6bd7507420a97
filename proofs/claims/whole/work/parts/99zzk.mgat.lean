/-! THE ORDER: the other side gathers -/
def cMO (e j : Nat) : Prop := (e = 150 ∧ (j = 78 ∨ j = 84 ∨ j = 85 ∨ (44 ≤ j ∧ j ≤ 57))) ∨ e = 180 ∨ e = 181 ∨ (189 ≤ e ∧ e ≤ 193)
def grM (N : Nat) (A : Nat → Nat → Bool) (g : Nat → Nat → Int) (h : Hp) : Prop := h 150 78 = (N : Int) ∧ (∀ p, p < N → BSt (h 190 p) (A p)) ∧ ∀ l a, l < N → a < N → l ≠ a → h 191 (10 * l + a) = g l a
theorem stP_s {m g : Hp} (S : SB m) {x y : Nat} (hx : x < 40) (hy : y < 40) (gf : ∀ e j, ¬ cMO e j → g e j = m e j) : OK (X12_standsPlan (x : Int) (y : Int) g) (fun q => (∀ j, 44 ≤ j → j ≤ 57 → q 150 j = plL m x y j) ∧ ∀ e j, ¬ (e = 150 ∧ 44 ≤ j ∧ j ≤ 57) → q e j = g e j) := by
  obtain ⟨-, -, -, ⟨b160, -⟩, -⟩ := id S
  have c1 := b160 x
  have c2 := b160 y
  obtain ⟨wx, ex⟩ := Int.eq_ofNat_of_zero_le c1.1
  obtain ⟨wy, ey⟩ := Int.eq_ofNat_of_zero_le c2.1
  obtain ⟨u, eu, -, u1, u2⟩ := clears_s (m := g) (b := 0) (c := 0) (n := 0)
  have ue : ∀ e j, 152 ≤ e → e ≤ 165 → u e j = m e j := fun e j h1 h2 => by rw [u1 e j (by omega), gf e j (by unfold cMO; omega)]
  unfold X12_standsPlan
  rw [eu, OK_bindE, OK_some]
  simp only [wtn x rfl (by omega), wtn y rfl (by omega), ue 160 x (by decide) (by decide), ue 160 y (by decide) (by decide), ex, ey]
  refine OK_gi (by omega) (by omega) (by omega) (OK_gi (by omega) (by omega) (by omega) (OK_gi (by omega) (by omega) (by omega) (OK_gi (by omega) (by omega) (by omega) (OK_gi (by omega) (by omega) (by omega) (OK_gi (by omega) (by omega) (by omega) (OK_gi (by omega) (by omega) (by omega) (OK_gi (by omega) (by omega) (by omega) (OK_gi (by omega) (by omega) (by omega) (OK_gi (by omega) (by omega) (by omega) ?_)))))))))
  rw [OK_some]
  simp only [wtn wx rfl (by omega), wtn wy rfl (by omega), ue 162 _ (by decide) (by decide), ue 163 _ (by decide) (by decide), ue 159 _ (by decide) (by decide), ue 164 _ (by decide) (by decide)]
  refine ⟨fun j h1 h2 => ?_, fun e j r => ?_⟩
  · unfold plL
    simp only [setH_at, true_and, u2 j h1 h2, ex, ey, tn]
    have : j = 44 ∨ j = 45 ∨ j = 46 ∨ j = 47 ∨ j = 48 ∨ j = 49 ∨ j = 50 ∨ j = 51 ∨ j = 52 ∨ j = 53 ∨ j = 54 ∨ j = 55 ∨ j = 56 ∨ j = 57 := by omega
    rcases this with e | e | e | e | e | e | e | e | e | e | e | e | e | e <;> subst e <;> rfl
  · rw [setH_f (by omega), setH_f (by omega), setH_f (by omega), setH_f (by omega), setH_f (by omega), setH_f (by omega), setH_f (by omega), setH_f (by omega), u1 e j r]
theorem gatM_s {x m m0 : Hp} (S : SB m) (X : TX x m 28 8) (K : CKm m) {P n k : Nat} {w : Int} {f : Nat → Bool} (h0 : ∀ e j, ¬ cMO e j → m0 e j = m e j) (hn : m 150 5 = (n : Int)) (hk : k < 1000) (hw : I32 w) (hf : ∀ i, f i = decide (m 161 i = (k : Int) ∧ (i : Int) ≠ w)) (hP : P ≤ 60) (hP2 : m 150 75 = (P : Int)) (hq : ∀ q, q < P → (0 ≤ m 187 q ∧ m 187 q < 40) ∧ (0 ≤ m 188 q ∧ m 188 q < 40)) : OK (X12_gathers (k : Int) w m0) (fun z => ((cnBt f n ≤ 10 ∧ z.1 = 1 ∧ (∀ p, p < cnBt f n → z.2 189 p = ((mthF f p n : Nat) : Int)) ∧ grM (cnBt f n) (aheB m (fun p => mthF f p n) (cnBt f n) P) (gaV m (fun p => mthF f p n) (cnBt f n)) z.2) ∨ (10 < cnBt f n ∧ z.1 = 0)) ∧ ∀ e j, ¬ cMO e j → z.2 e j = m e j) := by
  obtain ⟨⟨b2, b3, b4, b5⟩, -, -, ⟨-, b161, -⟩, -, ⟨bb, -⟩⟩ := id S
  unfold X12_gathers
  rw [OK_bindE]
  refine OK_mono (iter_up (fun i st => (i ≤ n ∧ cnBt f i ≤ 10) ∧ ∃ h : Hp, st = ((i : Int), h) ∧ h 150 78 = ((cnBt f i : Nat) : Int) ∧ (∀ p, p < cnBt f i → h 189 p = ((mthF f p i : Nat) : Int)) ∧ ∀ e j, ¬ cMO e j → h e j = m e j) (fun r => (∃ h : Hp, r = Sum.inl h ∧ 10 < cnBt f n ∧ ∀ e j, ¬ cMO e j → h e j = m e j) ∨ ∃ h : Hp, r = Sum.inr h ∧ cnBt f n ≤ 10 ∧ h 150 78 = ((cnBt f n : Nat) : Int) ∧ (∀ p, p < cnBt f n → h 189 p = ((mthF f p n : Nat) : Int)) ∧ ∀ e j, ¬ cMO e j → h e j = m e j) n (by omega) (fun i st hi hI => ?_) ⟨⟨Nat.zero_le _, Nat.zero_le _⟩, _, rfl, by rw [setH_s]; rfl, fun p hp => absurd hp (Nat.not_lt_zero _), fun e j q => by rw [setH_f (by unfold cMO at q; omega), h0 e j q]⟩) (fun r hr => ?_)
  · obtain ⟨⟨-, hc⟩, h, rfl, h78, h189, hh⟩ := hI
    unfold X12_gathers_l5 X12_gathers_j37
    dsimp only
    simp only [hh 150 5 (by unfold cMO; omega), hn, w32_id (z := (n : Int)) (by omega) (by omega), w32_id (z := (i : Int)) (by omega) (by omega)]
    refine OK_if (fun c => ?_) (fun c => OK_gi (by omega) (by omega) (by omega) ?_)
    · rw [OK_some, LQ_r]
      have : i = n := by omega
      subst this
      exact Or.inr ⟨h, rfl, hc, h78, h189, hh⟩
    · have c1 := b161 i
      simp only [tn, hh 161 i (by unfold cMO; omega), w32_id (z := m 161 i) (by omega) (by omega), w32_id (z := (k : Int)) (by omega) (by omega), w32_id (z := w) hw.1 hw.2]
      have skip : f i = false → LQ (fun (s' : Int × Hp) => i < n ∧ ((i + 1 ≤ n ∧ cnBt f (i + 1) ≤ 10) ∧ ∃ h : Hp, s' = (((i + 1 : Nat) : Int), h) ∧ h 150 78 = ((cnBt f (i + 1) : Nat) : Int) ∧ (∀ p, p < cnBt f (i + 1) → h 189 p = ((mthF f p (i + 1) : Nat) : Int)) ∧ ∀ e j, ¬ cMO e j → h e j = m e j)) (fun (r : Hp ⊕ Hp) => (∃ h : Hp, r = Sum.inl h ∧ 10 < cnBt f n ∧ ∀ e j, ¬ cMO e j → h e j = m e j) ∨ ∃ h : Hp, r = Sum.inr h ∧ cnBt f n ≤ 10 ∧ h 150 78 = ((cnBt f n : Nat) : Int) ∧ (∀ p, p < cnBt f n → h 189 p = ((mthF f p n : Nat) : Int)) ∧ ∀ e j, ¬ cMO e j → h e j = m e j) (Sum.inl ((i : Int) + 1, h)) := by
        intro q
        rw [LQ_l, cnBt_n q]
        exact ⟨by omega, ⟨by omega, hc⟩, h, rfl, h78, fun p hp => by rw [mthF_o hp]; exact h189 p hp, hh⟩
      refine OK_if (fun d => ?_) (fun d => OK_if (fun d2 => ?_) (fun d2 => ?_))
      · rw [OK_some]
        exact skip (by rw [hf]; exact decide_eq_false (fun q => d q.1))
      · have ft : f i = true := by rw [hf]; exact decide_eq_true ⟨by omega, d2⟩
        simp only [h78, w32_id (z := ((cnBt f i : Nat) : Int)) (by omega) (by omega), show w32 10 = 10 from rfl]
        refine OK_if (fun e => OK_gi (by omega) (by omega) (by omega) ?_) (fun e => ?_)
        · rw [OK_some, LQ_l, tn, cnBt_t ft]
          refine ⟨by omega, ⟨by omega, by omega⟩, _, rfl, by rw [setH_s]; rfl, fun p hp => ?_, fun e j q => by rw [setH_f (by unfold cMO at q; omega), setH_o (by unfold cMO at q; omega), hh e j q]⟩
          rw [setH_o (by decide)]
          by_cases e2 : p = cnBt f i
          · rw [e2, setH_s, mthF_n ft]
          · rw [setH_n e2, h189 p (by omega), mthF_o (by omega)]
        · rw [OK_some, LQ_r]
          have := cnBt_mono (f := f) (show i + 1 ≤ n by omega)
          rw [cnBt_t ft] at this
          exact Or.inl ⟨h, rfl, by omega, hh⟩
      · rw [OK_some]
        exact skip (by rw [hf]; exact decide_eq_false (fun q => q.2 (by omega)))
  · rcases hr with ⟨h, rfl, r1, r2⟩ | ⟨h, rfl, hN, h78, h189, hh⟩
    · rw [OK_some]
      exact ⟨Or.inr ⟨r1, rfl⟩, r2⟩
    · have cl := cnBt_le f n
      have mlt : ∀ p, p < cnBt f n → mthF f p n < n := fun p hp => (mthF_m n hp).2
      have mj : ∀ p q, p < cnBt f n → q < cnBt f n → mthF f p n = mthF f q n → p = q := fun p q h1 h2 h3 => mthF_j h1 h2 h3
      generalize cnBt f n = N at hN h78 h189 cl mlt mj ⊢
      generalize hmem : (fun p => mthF f p n) = mem
      have em : ∀ p, mthF f p n = mem p := fun p => by rw [← hmem]
      simp only [em] at h189 mlt mj ⊢
      rw [OK_bindE]
      refine OK_mono (iter_up (fun a st => a ≤ N ∧ ∃ u : Hp, st = ((a : Int), u) ∧ (∀ c, c < a → BSt (u 190 c) (aheB m mem N P c)) ∧ (∀ l b, l < a → b < N → l ≠ b → u 191 (10 * l + b) = gaV m mem N l b) ∧ (u 150 78 = (N : Int) ∧ ∀ p, p < N → u 189 p = ((mem p : Nat) : Int)) ∧ ∀ e j, ¬ cMO e j → u e j = m e j) (fun u => (∀ c, c < N → BSt (u 190 c) (aheB m mem N P c)) ∧ (∀ l b, l < N → b < N → l ≠ b → u 191 (10 * l + b) = gaV m mem N l b) ∧ (u 150 78 = (N : Int) ∧ ∀ p, p < N → u 189 p = ((mem p : Nat) : Int)) ∧ ∀ e j, ¬ cMO e j → u e j = m e j) N (by omega) (fun a st ha hI => ?_) ⟨Nat.zero_le _, h, rfl, fun c hc => by omega, fun l b hl => by omega, ⟨h78, h189⟩, hh⟩) (fun u hu => ?_)
      · obtain ⟨-, u, rfl, u190, u191, ⟨u78, u189⟩, uf⟩ := hI
        unfold X12_gathers_l41
        dsimp only
        simp only [u78, w32_id (z := (N : Int)) (by omega) (by omega), w32_id (z := (a : Int)) (by omega) (by omega)]
        refine OK_if (fun c => ?_) (fun c => OK_gi (by omega) (by omega) (by omega) ?_)
        · rw [OK_some, LQ_r]
          have : a = N := by omega
          subst this
          exact ⟨u190, u191, ⟨u78, u189⟩, uf⟩
        · have haN : a < N := by omega
          rw [tn, OK_bindE]
          refine OK_mono (iter_up (fun b st => b ≤ N ∧ ∃ v : Hp, st = ((b : Int), v) ∧ (BSt (v 190 a) (fun c => aheB m mem N P a c && decide (c < b)) ∧ ∀ c, c < a → BSt (v 190 c) (aheB m mem N P c)) ∧ ((∀ c, c < b → a ≠ c → v 191 (10 * a + c) = gaV m mem N a c) ∧ ∀ l b, l < a → b < N → l ≠ b → v 191 (10 * l + b) = gaV m mem N l b) ∧ (v 150 78 = (N : Int) ∧ ∀ p, p < N → v 189 p = ((mem p : Nat) : Int)) ∧ ∀ e j, ¬ cMO e j → v e j = m e j) (fun v => (BSt (v 190 a) (aheB m mem N P a) ∧ ∀ c, c < a → BSt (v 190 c) (aheB m mem N P c)) ∧ ((∀ c, c < N → a ≠ c → v 191 (10 * a + c) = gaV m mem N a c) ∧ ∀ l b, l < a → b < N → l ≠ b → v 191 (10 * l + b) = gaV m mem N l b) ∧ (v 150 78 = (N : Int) ∧ ∀ p, p < N → v 189 p = ((mem p : Nat) : Int)) ∧ ∀ e j, ¬ cMO e j → v e j = m e j) N (by omega) (fun b st hb hI => ?_) ⟨Nat.zero_le _, _, rfl, ⟨?_, fun c hc => ?_⟩, ⟨fun c hc => by omega, fun l b h1 h2 h3 => ?_⟩, ⟨?_, fun p hp => ?_⟩, fun e j q => ?_⟩) (fun v hv => ?_)
          · obtain ⟨-, v, rfl, ⟨va, vB⟩, ⟨vg, vG⟩, ⟨v78, v189⟩, vf⟩ := hI
            unfold X12_gathers_l52 X12_gathers_j120
            dsimp only
            simp only [v78, w32_id (z := (N : Int)) (by omega) (by omega), w32_id (z := (b : Int)) (by omega) (by omega), w32_id (z := (a : Int)) (by omega) (by omega)]
            refine OK_if (fun d => ?_) (fun d => ?_)
            · rw [OK_some, LQ_r]
              have : b = N := by omega
              subst this
              refine ⟨⟨BSt_cg (fun c => ?_) va, vB⟩, ⟨vg, vG⟩, ⟨v78, v189⟩, vf⟩
              unfold aheB
              cases decide (a < b) <;> cases decide (c < b) <;> cases decide (cnBt (pqB m mem a c) P ≠ 0) <;> rfl
            · have hbN : b < N := by omega
              have ma := mlt a haN
              have mb := mlt b hbN
              rw [OK_bindE]
              refine OK_mono (iter_up (fun q st => q ≤ P ∧ ∃ y : Hp, st = ((q : Int), y) ∧ (BSt (y 190 a) (fun c => (aheB m mem N P a c && decide (c < b)) || (decide (c = b) && decide (cnBt (pqB m mem a b) q ≠ 0))) ∧ ∀ c, c < a → BSt (y 190 c) (aheB m mem N P c)) ∧ ∀ e j, e ≠ 190 → y e j = v e j) (fun y => (BSt (y 190 a) (fun c => (aheB m mem N P a c && decide (c < b)) || (decide (c = b) && decide (cnBt (pqB m mem a b) P ≠ 0))) ∧ ∀ c, c < a → BSt (y 190 c) (aheB m mem N P c)) ∧ ∀ e j, e ≠ 190 → y e j = v e j) P (by omega) (fun q st hq2 hI => ?_) ⟨Nat.zero_le _, v, rfl, ⟨BSt_cg (fun c => ?_) va, vB⟩, fun _ _ _ => rfl⟩) (fun y hy => ?_)
              · obtain ⟨-, y, rfl, ⟨ya, yB⟩, yf⟩ := hI
                unfold X12_gathers_l58 X12_gathers_j90
                dsimp only
                have y75 : y 150 75 = (P : Int) := by rw [yf 150 75 (by decide), vf 150 75 (by unfold cMO; omega), hP2]
                simp only [y75, w32_id (z := (P : Int)) (by omega) (by omega), w32_id (z := (q : Int)) (by omega) (by omega)]
                refine OK_if (fun e => ?_) (fun e => OK_gi (by omega) (by omega) (by omega) (OK_gi (by omega) (by omega) (by omega) ?_))
                · rw [OK_some, LQ_r]
                  have : q = P := by omega
                  subst this
                  exact ⟨⟨ya, yB⟩, yf⟩
                · obtain ⟨p1, p2⟩ := hq q (by omega)
                  have e187 : y 187 q = m 187 q := by rw [yf 187 q (by decide), vf 187 q (by unfold cMO; omega)]
                  have e188 : y 188 q = m 188 q := by rw [yf 188 q (by decide), vf 188 q (by unfold cMO; omega)]
                  have eb : y 189 b = ((mem b : Nat) : Int) := by rw [yf 189 b (by decide), v189 b hbN]
                  have ea : y 189 a = ((mem a : Nat) : Int) := by rw [yf 189 a (by decide), v189 a haN]
                  simp only [tn, wtn b rfl (by omega), wtn a rfl (by omega), e187, e188, eb, ea, w32_id (z := m 187 q) (by omega) (by omega), w32_id (z := m 188 q) (by omega) (by omega), w32_id (z := ((mem b : Nat) : Int)) (by omega) (by omega), w32_id (z := ((mem a : Nat) : Int)) (by omega) (by omega)]
                  have skip : pqB m mem a b q = false → LQ (fun (s' : Int × Hp) => q < P ∧ (q + 1 ≤ P ∧ ∃ y : Hp, s' = (((q + 1 : Nat) : Int), y) ∧ (BSt (y 190 a) (fun c => (aheB m mem N P a c && decide (c < b)) || (decide (c = b) && decide (cnBt (pqB m mem a b) (q + 1) ≠ 0))) ∧ ∀ c, c < a → BSt (y 190 c) (aheB m mem N P c)) ∧ ∀ e j, e ≠ 190 → y e j = v e j)) (fun (y : Hp) => (BSt (y 190 a) (fun c => (aheB m mem N P a c && decide (c < b)) || (decide (c = b) && decide (cnBt (pqB m mem a b) P ≠ 0))) ∧ ∀ c, c < a → BSt (y 190 c) (aheB m mem N P c)) ∧ ∀ e j, e ≠ 190 → y e j = v e j) (Sum.inl ((q : Int) + 1, y)) := by
                    intro hno
                    rw [LQ_l, cnBt_n hno]
                    exact ⟨by omega, by omega, y, rfl, ⟨ya, yB⟩, yf⟩
                  refine OK_if (fun d1 => ?_) (fun d1 => OK_gi (by omega) (by omega) (by omega) (OK_gi (by omega) (by omega) (by omega) (OK_if (fun d2 => ?_) (fun d2 => OK_gi (by omega) (by omega) (by omega) (OK_gi (by omega) (by omega) (by omega) ?_)))))
                  · rw [OK_some]
                    exact skip (decide_eq_false (fun r => d1 r.1))
                  · rw [OK_some]
                    exact skip (decide_eq_false (fun r => d2 r.2))
                  · have ht : pqB m mem a b q = true := decide_eq_true ⟨by omega, by omega⟩
                    rw [OK_some, LQ_l, cnBt_t ht]
                    refine ⟨by omega, by omega, _, rfl, ⟨?_, fun c hc => ?_⟩, fun e j r => by rw [setH_o r, yf e j r]⟩
                    · rw [setH_s]
                      refine BSt_cg (fun c => ?_) (BSt_or ya (BSt_sh (y := b) (by omega)))
                      rw [decide_eq_true (show cnBt (pqB m mem a b) q + 1 ≠ 0 by omega)]
                      cases (aheB m mem N P a c && decide (c < b)) <;> cases decide (c = b) <;> cases decide (cnBt (pqB m mem a b) q ≠ 0) <;> rfl
                    · rw [setH_n (by omega)]
                      exact yB c hc
              · rw [decide_eq_false (show ¬ cnBt (pqB m mem a b) 0 ≠ 0 from fun q => q rfl), Bool.and_false, Bool.or_false]
              · obtain ⟨⟨ya, yB⟩, yf⟩ := hy
                have ya' : BSt (y 190 a) (fun c => aheB m mem N P a c && decide (c < b + 1)) := BSt_cg (fun c => by
                  by_cases e : c = b
                  · subst e
                    rw [decide_eq_false (show ¬ c < c by omega), Bool.and_false, Bool.false_or, decide_eq_true rfl, Bool.true_and, decide_eq_true (show c < c + 1 by omega), Bool.and_true]
                    unfold aheB
                    rw [decide_eq_true haN, decide_eq_true hbN, Bool.true_and, Bool.true_and]
                  · rw [decide_eq_false e, Bool.false_and, Bool.or_false]
                    by_cases e2 : c < b
                    · rw [decide_eq_true e2, decide_eq_true (show c < b + 1 by omega)]
                    · rw [decide_eq_false e2, decide_eq_false (show ¬ c < b + 1 by omega)]) ya
                have yc : ∀ e j, ¬ cMO e j → y e j = m e j := fun e j q => by rw [yf e j (by unfold cMO at q; omega), vf e j q]
                refine OK_if (fun e => OK_gi (by omega) (by omega) (by omega) (OK_gi (by omega) (by omega) (by omega) ?_)) (fun e => ?_)
                · simp only [tn, wtn b rfl (by omega), wtn a rfl (by omega), yf 189 b (by decide), v189 b hbN, yf 189 a (by decide), v189 a haN]
                  rw [OK_bindE]
                  refine OK_mono (stP_s S (x := mem a) (y := mem b) (by omega) (by omega) yc) (fun s hs => ?_)
                  obtain ⟨sL, sf⟩ := hs
                  have hbs : bdL (s 150) := fun j h1 h2 => by
                    rw [sL j h1 h2]
                    exact plL_bd S _ _ j h1 h2
                  have sm : ∀ c, 166 ≤ c → c ≤ 172 → s c = m c := fun c h1 h2 => funext fun j => by rw [sf c j (by omega), yc c j (by unfold cMO; omega)]
                  rw [OK_bindE]
                  refine OK_mono (tells_v (m' := s) (T := 8) (hd := 112) (lo := -1000) (hi := 1000) (by decide) X K sm hbs (by decide) (by decide) (by decide) (by decide)) (fun z hz => ?_)
                  obtain ⟨z1, z2, z3⟩ := hz
                  have ev : z.1 = gaV m mem N a b := by
                    unfold gaV plV
                    rw [if_pos ⟨haN, hbN⟩, z1]
                    exact VTx_cg sL
                  have zo : ∀ e j, ¬ (e = 150 ∧ 44 ≤ j ∧ j ≤ 57) → e ≠ 180 → e ≠ 181 → z.2 e j = y e j := fun e j q1 q2 q3 => by rw [z3 e q2 q3, sf e j q1]
                  refine OK_gi (by omega) (by omega) (by omega) ?_
                  simp only [wtn (v := 10 * (a : Int) + (b : Int)) (10 * a + b) (by omega) (by omega)]
                  rw [OK_some, LQ_l, ev]
                  refine ⟨hbN, by omega, _, rfl, ⟨?_, fun c hc => ?_⟩, ⟨fun c hc hac => ?_, fun l b' h1 h2 h3 => ?_⟩, ⟨?_, fun p hp => ?_⟩, fun e j q => ?_⟩
                  · rw [setH_o (by decide), zo 190 a (by omega) (by decide) (by decide)]
                    exact ya'
                  · rw [setH_o (by decide), zo 190 c (by omega) (by decide) (by decide)]
                    exact yB c hc
                  · by_cases e3 : c = b
                    · subst e3
                      rw [setH_s]
                    · rw [setH_n (by omega), zo 191 _ (by omega) (by decide) (by decide), yf 191 _ (by decide)]
                      exact vg c (by omega) hac
                  · rw [setH_n (by omega), zo 191 _ (by omega) (by decide) (by decide), yf 191 _ (by decide)]
                    exact vG l b' h1 h2 h3
                  · rw [setH_o (by decide), zo 150 78 (by omega) (by decide) (by decide), yf 150 78 (by decide), v78]
                  · rw [setH_o (by decide), zo 189 p (by omega) (by decide) (by decide), yf 189 p (by decide), v189 p hp]
                  · rw [setH_o (by unfold cMO at q; omega), zo e j (by unfold cMO at q; omega) (by unfold cMO at q; omega) (by unfold cMO at q; omega), yc e j q]
                · rw [OK_some, LQ_l]
                  refine ⟨hbN, by omega, y, rfl, ⟨ya', yB⟩, ⟨fun c hc hac => ?_, fun l b' h1 h2 h3 => ?_⟩, ⟨?_, fun p hp => ?_⟩, yc⟩
                  · rw [yf 191 _ (by decide)]
                    exact vg c (by omega) hac
                  · rw [yf 191 _ (by decide)]
                    exact vG l b' h1 h2 h3
                  · rw [yf 150 78 (by decide), v78]
                  · rw [yf 189 p (by decide), v189 p hp]
          · rw [setH_s]
            exact BSt_cg (fun c => by rw [decide_eq_false (show ¬ c < 0 by omega), Bool.and_false]) BSt_0
          · rw [setH_n (by omega)]
            exact u190 c hc
          · rw [setH_o (by decide)]
            exact u191 l b h1 h2 h3
          · rw [setH_o (by decide), u78]
          · rw [setH_o (by decide), u189 p hp]
          · rw [setH_o (by unfold cMO at q; omega), uf e j q]
          · obtain ⟨⟨va, vB⟩, ⟨vg, vG⟩, v3, vf⟩ := hv
            rw [OK_some, LQ_l]
            refine ⟨haN, by omega, v, rfl, fun c hc => ?_, fun l b h1 h2 h3 => ?_, v3, vf⟩
            · by_cases e : c = a
              · rw [e]
                exact va
              · exact vB c (by omega)
            · by_cases e : l = a
              · subst e
                exact vg b h2 h3
              · exact vG l b (by omega) h2 h3
      · obtain ⟨u1, u2, ⟨u3, u4⟩, u5⟩ := hu
        rw [OK_some]
        exact ⟨Or.inl ⟨hN, rfl, u4, u3, u1, u2⟩, u5⟩
