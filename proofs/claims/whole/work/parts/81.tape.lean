/-! THE TAPE: seed, feed, check -/
def RT (x m : Hp) : Prop := (x 1 1 = m 150 1 ∧ 0 ≤ m 150 1 ∧ m 150 1 ≤ 200) ∧ (x 0 15 = m 150 6 ∧ 0 ≤ m 150 6 ∧ m 150 6 ≤ 65535) ∧ (∀ i, x 2 i = m 151 i % 256 ∧ -128 ≤ m 151 i ∧ m 151 i ≤ 127)
theorem RT_cg {x m x' m' : Hp} (h1 : x' 1 1 = x 1 1) (h2 : x' 0 15 = x 0 15) (h3 : x' 2 = x 2) (h4 : m' 150 1 = m 150 1) (h5 : m' 150 6 = m 150 6) (h6 : m' 151 = m 151) (R : RT x m) : RT x' m' := by
  unfold RT
  rw [h1, h2, h3, h4, h5, h6]
  exact R
theorem seed_b {x m : Hp} (R : RT x m) {a : Int} (ha : I32 a) : OK (X11_seed a x) (fun z => OK (X12_seed a m) (fun w => z.1 = w.1 ∧ RT z.2 w.2 ∧ (∀ c j, ¬ (c = 0 ∧ j = 15) → z.2 c j = x c j) ∧ (∀ c j, ¬ (c = 150 ∧ j = 6) → w.2 c j = m c j))) := by
  obtain ⟨r1, r2, r3⟩ := id R
  unfold X11_seed X12_seed
  rw [within_in (by omega) (by omega) ha.1 ha.2 (by omega) (by omega), I32_w ha, lies_in (by have := ha.1; omega) (by have := ha.2; omega) (by omega) (by omega) (by omega) (by omega), OK_bindE, OK_some, OK_bindE, OK_some]
  by_cases c : 0 ≤ a ∧ a ≤ 65535
  · simp only [if_pos c, q0, q1, qn0, qn1, i10, i00, in10, in00, if_true, if_false, OK_bindE, OK_some, Option.bind_some]
    refine ⟨rfl, ⟨r1, ⟨?_, ?_, ?_⟩, ?_⟩, fun c j h => setH_f h, fun c j h => setH_f h⟩
    · rw [setH_s, setH_s]
    · rw [setH_s]
      exact c.1
    · rw [setH_s]
      exact c.2
    · rw [setH_o (by decide), setH_o (by decide)]
      exact r3
  · simp only [if_neg c, q0, q1, qn0, qn1, i10, i00, in10, in00, if_true, if_false, OK_bindE, OK_some, Option.bind_some]
    exact ⟨rfl, R, fun _ _ _ => rfl, fun _ _ _ => rfl⟩
/-- the lowest byte of a number moved down, on both sides -/
theorem byte_b (v : Int) (s : Fin 4) : and32 (ushr32 v (8 * (s.val : Int))) 255 = b8 (b8 (shr32 v (8 * (s.val : Int)))) % 256 ∧ -128 ≤ b8 (b8 (shr32 v (8 * (s.val : Int)))) ∧ b8 (b8 (shr32 v (8 * (s.val : Int)))) ≤ 127 := by
  sorry
