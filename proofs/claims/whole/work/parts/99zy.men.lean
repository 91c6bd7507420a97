/-! TWO MEN -/
def mthF (f : Nat → Bool) (p : Nat) : Nat → Nat
  | 0 => 0
  | n + 1 => if f n = true ∧ cnBt f n = p then n else mthF f p n
theorem mthF_s (f : Nat → Bool) (p n : Nat) : mthF f p (n + 1) = if f n = true ∧ cnBt f n = p then n else mthF f p n := rfl
theorem mthF_m {f : Nat → Bool} {p : Nat} : ∀ n, p < cnBt f n → f (mthF f p n) = true ∧ mthF f p n < n := by
  intro n
  induction n with
  | zero => intro h; exact absurd h (Nat.not_lt_zero _)
  | succ n ih =>
    intro h
    rw [mthF_s]
    by_cases c : f n = true ∧ cnBt f n = p
    · rw [if_pos c]
      exact ⟨c.1, by omega⟩
    · rw [if_neg c]
      cases hf : f n with
      | false =>
        rw [cnBt_n hf] at h
        have := ih h
        exact ⟨this.1, by omega⟩
      | true =>
        rw [cnBt_t hf] at h
        have := ih (by
          by_cases q : cnBt f n = p
          · exact absurd ⟨hf, q⟩ c
          · omega)
        exact ⟨this.1, by omega⟩
theorem mthF_o {f : Nat → Bool} {p n : Nat} (h : p < cnBt f n) : mthF f p (n + 1) = mthF f p n := by
  rw [mthF_s, if_neg (fun q => by omega)]
theorem mthF_n {f : Nat → Bool} {n : Nat} (h : f n = true) : mthF f (cnBt f n) (n + 1) = n := by
  rw [mthF_s, if_pos ⟨h, rfl⟩]
theorem cnBt_mono {f : Nat → Bool} {i n : Nat} (h : i ≤ n) : cnBt f i ≤ cnBt f n := by
  have key : ∀ d, cnBt f i ≤ cnBt f (i + d) := by
    intro d
    induction d with
    | zero => exact Nat.le_refl _
    | succ d ih =>
      show cnBt f i ≤ cnBt f (i + d) + (if f (i + d) = true then 1 else 0)
      omega
  have := key (n - i)
  rw [show i + (n - i) = n from by omega] at this
  exact this
/-- the kinds of a bit's words -/
noncomputable def kdF (m : Hp) (i : Nat) : Nat → Int
  | 0 => 0
  | p + 1 => or64 (kdF m i p) (shl64 1 (m 165 (8 * i + p)))
noncomputable def bdF (m : Hp) (x y : Nat) : Int := 4 - (if m 163 y ≤ m 163 x then m 163 x - m 163 y else m 163 y - m 163 x) + ((cnBt (tb (and64 (kdF m x (m 164 x).toNat) (kdF m y (m 164 y).toNat))) 64 : Nat) : Int)
theorem bdF_b {m : Hp} (S : SB m) (x y : Nat) : -5 ≤ bdF m x y ∧ bdF m x y ≤ 68 := by
  obtain ⟨-, -, -, ⟨-, -, -, b163⟩, -⟩ := id S
  have a := b163 x
  have b := b163 y
  have c := cnBt_le (tb (and64 (kdF m x (m 164 x).toNat) (kdF m y (m 164 y).toNat))) 64
  unfold bdF
  split <;> omega
theorem kindsX_s {x m : Hp} (R : RS x m) {i : Nat} (hi : (i : Int) < m 150 5) : X0_kindsOf (i : Int) x = some (kdF m i (m 164 i).toNat) := by
  obtain ⟨⟨-, -, ⟨-, -, -, -, e16⟩, e17, -⟩, S⟩ := id R
  obtain ⟨⟨-, -, -, b5⟩, -, -, -, ⟨b164, b165⟩, -⟩ := id S
  have b4 := b164 i
  obtain ⟨N, hN⟩ := Int.eq_ofNat_of_zero_le b4.1
  have key : OK (iter (X0_kindsOf_l4 (i : Int) x) FU (0, 0)) (fun z => z = kdF m i N) := by
    refine iter_up (fun p s => p ≤ N ∧ s = (kdF m i p, (p : Int))) _ N (by omega) (fun p s hp hI => ?_) ⟨Nat.zero_le _, rfl⟩
    obtain ⟨-, rfl⟩ := hI
    unfold X0_kindsOf_l4
    dsimp only
    rw [bitSize_e i rfl (by omega), OK_bindE, OK_some, e16]
    simp only [hN, w32_id (z := (N : Int)) (by omega) (by omega), w32_id (z := (p : Int)) (by omega) (by omega)]
    refine OK_if (fun c => ?_) (fun c => ?_)
    · rw [OK_some, LQ_r, show p = N from by omega]
    · rw [bitWord_e (8 * i + p) (by omega) (by omega), OK_bindE, OK_some, e17 i p hi (by omega), OK_some, LQ_l]
      exact ⟨by omega, by omega, rfl⟩
  unfold X0_kindsOf
  obtain ⟨z, ez, hz⟩ := OK_ex key
  rw [ez, hz, Option.bind_some, hN, tn]
theorem kindsM1_s {m : Hp} (S : SB m) {i : Nat} {a b : Int} (hi : (i : Int) < m 150 5) : iter (X12_alikeOf_l6 (i : Int) a b m) FU (0, 0) = some (kdF m i (m 164 i).toNat) := by
  obtain ⟨⟨-, -, -, b5⟩, -, -, -, ⟨b164, b165⟩, -⟩ := id S
  have b4 := b164 i
  obtain ⟨N, hN⟩ := Int.eq_ofNat_of_zero_le b4.1
  have key : OK (iter (X12_alikeOf_l6 (i : Int) a b m) FU (0, 0)) (fun z => z = kdF m i N) := by
    refine iter_up (fun p s => p ≤ N ∧ s = (kdF m i p, (p : Int))) _ N (by omega) (fun p s hp hI => ?_) ⟨Nat.zero_le _, rfl⟩
    obtain ⟨-, rfl⟩ := hI
    unfold X12_alikeOf_l6
    dsimp only
    refine OK_gi (by omega) (by omega) (by omega) ?_
    simp only [wtn i rfl (by omega), hN, w32_id (z := (N : Int)) (by omega) (by omega), w32_id (z := (p : Int)) (by omega) (by omega)]
    refine OK_if (fun c => ?_) (fun c => OK_gi (by omega) (by omega) (by omega) ?_)
    · rw [OK_some, LQ_r, show p = N from by omega]
    · rw [wtn (v := 8 * (i : Int) + (p : Int)) (8 * i + p) (by omega) (by omega), OK_some, LQ_l]
      exact ⟨by omega, by omega, rfl⟩
  obtain ⟨z, ez, hz⟩ := OK_ex key
  rw [ez, hz, hN, tn]
theorem kindsM2_s {m : Hp} (S : SB m) {i : Nat} {a b : Int} (hi : (i : Int) < m 150 5) : iter (X12_alikeOf_l29 a (i : Int) b m) FU (0, 0) = some (kdF m i (m 164 i).toNat) := by
  obtain ⟨⟨-, -, -, b5⟩, -, -, -, ⟨b164, b165⟩, -⟩ := id S
  have b4 := b164 i
  obtain ⟨N, hN⟩ := Int.eq_ofNat_of_zero_le b4.1
  have key : OK (iter (X12_alikeOf_l29 a (i : Int) b m) FU (0, 0)) (fun z => z = kdF m i N) := by
    refine iter_up (fun p s => p ≤ N ∧ s = (kdF m i p, (p : Int))) _ N (by omega) (fun p s hp hI => ?_) ⟨Nat.zero_le _, rfl⟩
    obtain ⟨-, rfl⟩ := hI
    unfold X12_alikeOf_l29
    dsimp only
    refine OK_gi (by omega) (by omega) (by omega) ?_
    simp only [wtn i rfl (by omega), hN, w32_id (z := (N : Int)) (by omega) (by omega), w32_id (z := (p : Int)) (by omega) (by omega)]
    refine OK_if (fun c => ?_) (fun c => OK_gi (by omega) (by omega) (by omega) ?_)
    · rw [OK_some, LQ_r, show p = N from by omega]
    · rw [wtn (v := 8 * (i : Int) + (p : Int)) (8 * i + p) (by omega) (by omega), OK_some, LQ_l]
      exact ⟨by omega, by omega, rfl⟩
  obtain ⟨z, ez, hz⟩ := OK_ex key
  rw [ez, hz, hN, tn]
theorem alikeOf_s {m : Hp} (S : SB m) {x y : Nat} (hx : (x : Int) < m 150 5) (hy : (y : Int) < m 150 5) : X12_alikeOf (x : Int) (y : Int) m = some (bdF m x y) := by
  obtain ⟨⟨-, -, -, b5⟩, -, -, ⟨-, -, -, b163⟩, -⟩ := id S
  have a := b163 x
  have b := b163 y
  unfold X12_alikeOf bdF X12_alikeOf_j78
  rw [kindsM1_s S hx, Option.bind_some, kindsM2_s S hy, Option.bind_some, if_inb (by omega) (by omega) (by omega), if_inb (by omega) (by omega) (by omega), wtn x rfl (by omega), wtn y rfl (by omega)]
  simp only [w32_id (z := m 163 x) (by omega) (by omega), w32_id (z := m 163 y) (by omega) (by omega)]
  by_cases c : m 163 y ≤ m 163 x
  · rw [if_pos c, if_pos c, if_inb (by omega) (by omega) (by omega), if_inb (by omega) (by omega) (by omega), sizeOf_s, Option.bind_some]
  · rw [if_neg c, if_neg c, if_inb (by omega) (by omega) (by omega), if_inb (by omega) (by omega) (by omega), sizeOf_s, Option.bind_some]
/-- what a cut comes to -/
def viF (bd : Nat → Nat → Int) (s p : Nat) : Nat → Int
  | 0 => 0
  | q + 1 => viF bd s p q + (if s.testBit p = s.testBit q then bd p q else - bd p q)
def voF (bd : Nat → Nat → Int) (s : Nat) : Nat → Int
  | 0 => 0
  | p + 1 => voF bd s p + viF bd s p p
theorem viF_s (bd : Nat → Nat → Int) (s p q : Nat) : viF bd s p (q + 1) = viF bd s p q + (if s.testBit p = s.testBit q then bd p q else - bd p q) := rfl
theorem voF_s (bd : Nat → Nat → Int) (s p : Nat) : voF bd s (p + 1) = voF bd s p + viF bd s p p := rfl
theorem viF_b {bd : Nat → Nat → Int} (h : ∀ p q, -68 ≤ bd p q ∧ bd p q ≤ 68) (s p : Nat) : ∀ q : Nat, -68 * (q : Int) ≤ viF bd s p q ∧ viF bd s p q ≤ 68 * (q : Int) := by
  intro q
  induction q with
  | zero => exact ⟨Int.le_refl _, Int.le_refl _⟩
  | succ q ih =>
    have := h p q
    rw [viF_s]
    split <;> omega
theorem voF_b {bd : Nat → Nat → Int} (h : ∀ p q, -68 ≤ bd p q ∧ bd p q ≤ 68) (s : Nat) : ∀ p : Nat, p ≤ 10 → -680 * (p : Int) ≤ voF bd s p ∧ voF bd s p ≤ 680 * (p : Int) := by
  intro p
  induction p with
  | zero => intro _; exact ⟨Int.le_refl _, Int.le_refl _⟩
  | succ p ih =>
    intro hp
    have a := ih (by omega)
    have b := viF_b h s p p
    rw [voF_s]
    omega
theorem BSt_nat {s : Nat} (h : s < 1073741824) : BSt (s : Int) (fun i => s.testBit i) := ⟨s, rfl, h, fun _ => rfl⟩
def cXM (e j : Nat) : Prop := (e = 77 ∧ (j = 7 ∨ j = 10 ∨ j = 11)) ∨ e = 79 ∨ e = 80
theorem RS_cM {x z m : Hp} (hz : ∀ e j, ¬ cXM e j → z e j = x e j) (R : RS x m) : RS z m := RS_cg (fun a j h => hz a j (by unfold cXS at h; unfold cXM; omega)) (fun _ _ _ => rfl) R
/-- the bonds of the one side -/
theorem bonds_s {x m : Hp} (R : RS x m) {N : Nat} {mem : Nat → Nat} (hN : N ≤ 10) (h7 : x 77 7 = (N : Int)) (hm : ∀ p, p < N → x 79 p = ((mem p : Nat) : Int)) (hb : ∀ p, p < N → ((mem p : Nat) : Int) < m 150 5) : OK (X0_fillBonds x) (fun z => (∀ p q, p < N → q < p → z 80 (10 * p + q) = bdF m (mem p) (mem q)) ∧ ∀ e j, e ≠ 80 → z e j = x e j) := by
  obtain ⟨-, S⟩ := id R
  obtain ⟨⟨-, -, -, b5⟩, -, -, ⟨-, -, -, b163⟩, -⟩ := id S
  unfold X0_fillBonds
  rw [OK_bindE]
  refine OK_mono (iter_up (fun p s => p ≤ N ∧ ∃ h : Hp, s = ((p : Int), h) ∧ (∀ a q, a < p → q < a → h 80 (10 * a + q) = bdF m (mem a) (mem q)) ∧ ∀ e j, e ≠ 80 → h e j = x e j) (fun z => (∀ p q, p < N → q < p → z 80 (10 * p + q) = bdF m (mem p) (mem q)) ∧ ∀ e j, e ≠ 80 → z e j = x e j) N (by omega) (fun p s hp hI => ?_) ⟨Nat.zero_le _, x, rfl, fun a q h1 h2 => by omega, fun _ _ _ => rfl⟩) (fun z hz => by rw [OK_some]; exact hz)
  obtain ⟨-, h, rfl, h1, hf⟩ := hI
  unfold X0_fillBonds_l2
  dsimp only
  simp only [hf 77 7 (by decide), h7, w32_id (z := (N : Int)) (by omega) (by omega), w32_id (z := (p : Int)) (by omega) (by omega)]
  refine OK_if (fun c => ?_) (fun c => ?_)
  · rw [OK_some, LQ_r]
    exact ⟨fun a q ha hq => h1 a q (by omega) hq, hf⟩
  · have hpN : p < N := by omega
    have bp := hb p hpN
    rw [at_e (a := 79) (n := 10) p rfl (by omega) (by omega), OK_bindE, OK_some, hf 79 p (by decide), hm p hpN, OK_bindE]
    refine OK_mono (iter_up (fun q s => q ≤ p ∧ ∃ g : Hp, s = ((q : Int), g) ∧ (∀ a r, a < p → r < a → g 80 (10 * a + r) = bdF m (mem a) (mem r)) ∧ (∀ r, r < q → g 80 (10 * p + r) = bdF m (mem p) (mem r)) ∧ ∀ e j, e ≠ 80 → g e j = x e j) (fun g => (∀ a r, a < p + 1 → r < a → g 80 (10 * a + r) = bdF m (mem a) (mem r)) ∧ ∀ e j, e ≠ 80 → g e j = x e j) p (by omega) (fun q s hq hI => ?_) ⟨Nat.zero_le _, h, rfl, h1, fun r hr => by omega, hf⟩) (fun g hg => ?_)
    · obtain ⟨-, g, rfl, g1, g2, gf⟩ := hI
      have Rg : RS g m := RS_cM (fun e j r => gf e j (fun t => r (Or.inr (Or.inr t)))) R
      obtain ⟨⟨-, -, ⟨-, -, -, i15, -⟩, -⟩, -⟩ := id Rg
      unfold X0_fillBonds_l13
      dsimp only
      simp only [w32_id (z := (p : Int)) (by omega) (by omega), w32_id (z := (q : Int)) (by omega) (by omega)]
      refine OK_if (fun d => ?_) (fun d => ?_)
      · rw [OK_some, LQ_r]
        refine ⟨fun a r ha hr => ?_, gf⟩
        by_cases e : a = p
        · subst e
          exact g2 r (by omega)
        · exact g1 a r (by omega) hr
      · have bq := hb q (by omega)
        have s1 := b163 (mem p)
        have s2 := b163 (mem q)
        rw [at_e (a := 79) (n := 10) q rfl (by omega) (by omega), OK_bindE, OK_some, gf 79 q (by decide), hm q (by omega)]
        unfold X7_bitSubject
        rw [at_e (a := 15) (n := 40) (mem p) rfl (by omega) (by omega), Option.bind_some, OK_bindE, OK_some, at_e (a := 15) (n := 40) (mem q) rfl (by omega) (by omega), Option.bind_some, OK_bindE, OK_some, i15, kindsX_s Rg bp, OK_bindE, OK_some, kindsX_s Rg bq, OK_bindE, OK_some, bitCount_s, OK_bindE, OK_some, put_e (a := 80) (n := 100) (10 * p + q) (by omega) (by omega) (by omega), OK_bindE, OK_some, OK_some, LQ_l]
        have ea : absI (m 163 (mem p) - m 163 (mem q)) = if m 163 (mem q) ≤ m 163 (mem p) then m 163 (mem p) - m 163 (mem q) else m 163 (mem q) - m 163 (mem p) := by
          unfold absI
          rw [w32_id (by omega) (by omega)]
          split <;> split <;> omega
        refine ⟨by omega, by omega, _, rfl, fun a r ha hr => ?_, fun r hr => ?_, fun e j t => by rw [setH_o t, gf e j t]⟩
        · rw [setH_n (by omega)]
          exact g1 a r ha hr
        · by_cases e : r = q
          · subst e
            rw [setH_s, ea]
            rfl
          · rw [setH_n (by omega)]
            exact g2 r (by omega)
    · rw [OK_some, LQ_l]
      exact ⟨by omega, by omega, g, rfl, hg⟩
