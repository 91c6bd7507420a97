/-! WHOSE: the other side's count -/
def UWm (na : Nat) (F : Nat → Nat → Nat) (G : Nat → Nat) (h : Hp) : Prop := ∀ a, a < na → (∀ w, w < 64 → h 194 (64 * a + w) = ((F a w : Nat) : Int)) ∧ h 195 a = ((G a : Nat) : Int)
theorem counts_s {na : Nat} {F : Nat → Nat → Nat} {G : Nat → Nat} {A w : Nat} {h : Hp} {v u : Int} (ev : v = (A : Int)) (eu : u = (w : Int)) (hna : na ≤ 8) (hA : A < na) (hw : w < 64) (H : UWm na F G h) : OK (X12_counts v u h) (fun g => UWm na (fun b y => F b y + (if A = b ∧ w = y then 1 else 0)) (fun b => G b + (if A = b then 1 else 0)) g ∧ ∀ e j, e ≠ 194 → e ≠ 195 → g e j = h e j) := by
  subst ev eu
  obtain ⟨h1, h2⟩ := H A hA
  unfold X12_counts
  refine OK_gi (by omega) (by omega) (by omega) (OK_gi (by omega) (by omega) (by omega) (OK_gi (by omega) (by omega) (by omega) (OK_gi (by omega) (by omega) (by omega) ?_)))
  rw [OK_some]
  simp only [tn, w32_id (z := (A : Int)) (by omega) (by omega), wtn (v := 64 * (A : Int) + (w : Int)) (64 * A + w) (by omega) (by omega)]
  refine ⟨fun b hb => ⟨fun y hy => ?_, ?_⟩, fun e j q1 q2 => by rw [setH_o q2, setH_o q1]⟩
  · rw [setH_o (by decide)]
    dsimp only
    by_cases e : 64 * b + y = 64 * A + w
    · have e1 : A = b := by omega
      have e2 : w = y := by omega
      subst e1 e2
      rw [setH_s, h1 w hw, if_pos (show A = A ∧ w = w from ⟨rfl, rfl⟩)]
      rfl
    · rw [setH_n e, (H b hb).1 y hy, if_neg (show ¬ (A = b ∧ w = y) from fun q => e (by rw [q.1, q.2]))]
      rfl
  · dsimp only
    by_cases e : b = A
    · subst e
      rw [setH_s, h2, if_pos rfl]
      rfl
    · rw [setH_n e, setH_o (by decide), (H b hb).2, if_neg (show ¬ A = b from fun q => e q.symm)]
      rfl
theorem UWm_cg {na : Nat} {F F' : Nat → Nat → Nat} {G G' : Nat → Nat} {h : Hp} (hF : ∀ a w, F a w = F' a w) (hG : ∀ a, G a = G' a) (H : UWm na F G h) : UWm na F' G' h := fun a ha => ⟨fun w hw => by rw [(H a ha).1 w hw, hF], by rw [(H a ha).2, hG]⟩
theorem usesM_s {m : Hp} (S : SB m) {s n nk na : Nat} (hn : m 150 5 = (n : Int)) (hnk : m 150 3 = (nk : Int)) (hna : m 150 2 = (na : Int)) (hs : s < 40) : OK (X12_gathersWords (s : Int) m) (fun z => UWm na (fun a w => ofK m a w nk + ofB m s a w n) (fun a => alK m a nk + alBu m s a n) z ∧ ∀ e j, e ≠ 194 → e ≠ 195 → z e j = m e j) := by
  obtain ⟨⟨b2, b3, b4, b5⟩, ⟨-, -, b154, -⟩, ⟨b156, b157, -⟩, ⟨-, b161, -⟩, ⟨b164, b165⟩, ⟨bb, d2, -⟩⟩ := id S
  unfold X12_gathersWords
  rw [OK_bindE]
  refine OK_mono (iter_up (fun p st => p ≤ 512 ∧ ∃ h : Hp, st = ((p : Int), h) ∧ (∀ w, w < p → h 194 w = 0) ∧ ∀ e j, e ≠ 194 → e ≠ 195 → h e j = m e j) (fun h => (∀ w, w < 512 → h 194 w = 0) ∧ ∀ e j, e ≠ 194 → e ≠ 195 → h e j = m e j) 512 (by omega) (fun p st hp hI => ?_) ⟨Nat.zero_le _, m, rfl, fun w hw => by omega, fun _ _ _ _ => rfl⟩) (fun h0 hh0 => ?_)
  · obtain ⟨-, h, rfl, h1, hf⟩ := hI
    unfold X12_gathersWords_l2
    dsimp only
    simp only [w32_id (z := (p : Int)) (by omega) (by omega), show w32 512 = 512 from rfl]
    refine OK_if (fun c => ?_) (fun c => ?_)
    · rw [OK_some, LQ_r]
      exact ⟨fun w hw => h1 w (by omega), hf⟩
    · refine OK_gi (by omega) (by omega) (by omega) ?_
      rw [OK_some, LQ_l, tn]
      refine ⟨by omega, by omega, _, rfl, fun w hw => ?_, fun e j q1 q2 => by rw [setH_o q1, hf e j q1 q2]⟩
      by_cases e : w = p
      · subst e
        rw [setH_s]
      · rw [setH_n e]
        exact h1 w (by omega)
  · obtain ⟨H0, F0⟩ := hh0
    rw [OK_bindE]
    refine OK_mono (iter_up (fun p st => p ≤ na ∧ ∃ h : Hp, st = ((p : Int), h) ∧ (∀ w, w < 512 → h 194 w = 0) ∧ (∀ a, a < p → h 195 a = 0) ∧ ∀ e j, e ≠ 194 → e ≠ 195 → h e j = m e j) (fun h => UWm na (fun _ _ => 0) (fun _ => 0) h ∧ ∀ e j, e ≠ 194 → e ≠ 195 → h e j = m e j) na (by omega) (fun p st hp hI => ?_) ⟨Nat.zero_le _, h0, rfl, H0, fun a ha => by omega, F0⟩) (fun h1 hh1 => ?_)
    · obtain ⟨-, h, rfl, h1, h2, hf⟩ := hI
      unfold X12_gathersWords_l14
      dsimp only
      simp only [hf 150 2 (by decide) (by decide), hna, w32_id (z := (na : Int)) (by omega) (by omega), w32_id (z := (p : Int)) (by omega) (by omega)]
      refine OK_if (fun c => ?_) (fun c => ?_)
      · rw [OK_some, LQ_r]
        exact ⟨fun a ha => ⟨fun w hw => h1 _ (by omega), h2 a (by omega)⟩, hf⟩
      · refine OK_gi (by omega) (by omega) (by omega) ?_
        rw [OK_some, LQ_l, tn]
        refine ⟨by omega, by omega, _, rfl, fun w hw => by rw [setH_o (by decide), h1 w hw], fun a ha => ?_, fun e j q1 q2 => by rw [setH_o q2, hf e j q1 q2]⟩
        by_cases e : a = p
        · subst e
          rw [setH_s]
        · rw [setH_n e]
          exact h2 a (by omega)
    · obtain ⟨H1, F1⟩ := hh1
      rw [OK_bindE]
      refine OK_mono (iter_up (fun k st => k ≤ nk ∧ ∃ h : Hp, st = ((k : Int), h) ∧ UWm na (fun a w => ofK m a w k) (fun a => alK m a k) h ∧ ∀ e j, e ≠ 194 → e ≠ 195 → h e j = m e j) (fun h => UWm na (fun a w => ofK m a w nk) (fun a => alK m a nk) h ∧ ∀ e j, e ≠ 194 → e ≠ 195 → h e j = m e j) nk (by omega) (fun k st hk hI => ?_) ⟨Nat.zero_le _, h1, rfl, H1, F1⟩) (fun h2 hh2 => ?_)
      · obtain ⟨-, h, rfl, H, hf⟩ := hI
        unfold X12_gathersWords_l27
        dsimp only
        simp only [hf 150 3 (by decide) (by decide), hnk, w32_id (z := (nk : Int)) (by omega) (by omega), w32_id (z := (k : Int)) (by omega) (by omega)]
        refine OK_if (fun c => ?_) (fun c => ?_)
        · rw [OK_some, LQ_r]
          have : k = nk := by omega
          subst this
          exact ⟨H, hf⟩
        · have bk := b156 k
          have ba := b154 k
          have bd := d2 k (by omega)
          obtain ⟨N, hN⟩ := Int.eq_ofNat_of_zero_le bk.1
          obtain ⟨A, hA⟩ := Int.eq_ofNat_of_zero_le ba.1
          rw [OK_bindE]
          refine OK_mono (iter_up (fun p st => p ≤ N ∧ ∃ g : Hp, st = ((p : Int), g) ∧ UWm na (fun a w => ofK m a w k + (if m 154 k = (a : Int) then ctW (fun p => m 157 (40 * k + p)) w p else 0)) (fun a => alK m a k + (if m 154 k = (a : Int) then p else 0)) g ∧ ∀ e j, e ≠ 194 → e ≠ 195 → g e j = m e j) (fun g => UWm na (fun a w => ofK m a w (k + 1)) (fun a => alK m a (k + 1)) g ∧ ∀ e j, e ≠ 194 → e ≠ 195 → g e j = m e j) N (by omega) (fun p st hp hI => ?_) ⟨Nat.zero_le _, h, rfl, UWm_cg (fun a w => by rw [show ctW (fun p => m 157 (40 * k + p)) w 0 = 0 from rfl]; split <;> rfl) (fun a => by split <;> rfl) H, hf⟩) (fun g hg => ?_)
          · obtain ⟨-, g, rfl, G, gf⟩ := hI
            unfold X12_gathersWords_l33
            dsimp only
            refine OK_gi (by omega) (by omega) (by omega) ?_
            simp only [wtn k rfl (by omega), gf 156 k (by decide) (by decide), hN, w32_id (z := (N : Int)) (by omega) (by omega), w32_id (z := (p : Int)) (by omega) (by omega)]
            refine OK_if (fun d => ?_) (fun d => OK_gi (by omega) (by omega) (by omega) (OK_gi (by omega) (by omega) (by omega) ?_))
            · rw [OK_some, LQ_r]
              have hpN : p = N := by omega
              refine ⟨UWm_cg (fun a w => ?_) (fun a => ?_) G, gf⟩
              · rw [ofK_s, hN, tn, hpN]
              · rw [alK_s, hN, tn, hpN]
            · have c2 := b157 (40 * k + p)
              obtain ⟨w, hw⟩ := Int.eq_ofNat_of_zero_le c2.1
              simp only [wtn (v := 40 * (k : Int) + (p : Int)) (40 * k + p) (by omega) (by omega), gf 154 k (by decide) (by decide), gf 157 (40 * k + p) (by decide) (by decide)]
              rw [OK_bindE]
              refine OK_mono (counts_s hA hw (by omega) (by omega) (by omega) G) (fun u hu => ?_)
              rw [OK_some, LQ_l]
              refine ⟨by omega, by omega, u, rfl, UWm_cg (fun a v => ?_) (fun a => ?_) hu.1, fun e j q1 q2 => by rw [hu.2 e j q1 q2, gf e j q1 q2]⟩
              · by_cases q : m 154 k = (a : Int)
                · rw [if_pos q, if_pos q, ctW_s, hw]
                  by_cases q2 : w = v
                  · rw [if_pos ⟨by omega, q2⟩, if_pos (by rw [q2]), Nat.add_assoc]
                  · rw [if_neg (fun r => q2 r.2), if_neg (by omega), Nat.add_zero, Nat.add_zero]
                · rw [if_neg q, if_neg q, if_neg (fun r => q (by omega))]
              · by_cases q : m 154 k = (a : Int)
                · rw [if_pos q, if_pos q, if_pos (by omega), Nat.add_assoc]
                · rw [if_neg q, if_neg q, if_neg (by omega)]
          · rw [OK_some, LQ_l]
            exact ⟨by omega, by omega, g, rfl, hg⟩
      · obtain ⟨H2, F2⟩ := hh2
        rw [OK_bindE]
        refine OK_mono (iter_up (fun i st => i ≤ n ∧ ∃ h : Hp, st = ((i : Int), h) ∧ UWm na (fun a w => ofK m a w nk + ofB m s a w i) (fun a => alK m a nk + alBu m s a i) h ∧ ∀ e j, e ≠ 194 → e ≠ 195 → h e j = m e j) (fun h => UWm na (fun a w => ofK m a w nk + ofB m s a w n) (fun a => alK m a nk + alBu m s a n) h ∧ ∀ e j, e ≠ 194 → e ≠ 195 → h e j = m e j) n (by omega) (fun i st hi hI => ?_) ⟨Nat.zero_le _, h2, rfl, H2, F2⟩) (fun z hz => by rw [OK_some]; exact hz)
        obtain ⟨-, h, rfl, H, hf⟩ := hI
        unfold X12_gathersWords_l59 X12_gathersWords_j100
        dsimp only
        simp only [hf 150 5 (by decide) (by decide), hn, w32_id (z := (n : Int)) (by omega) (by omega), w32_id (z := (i : Int)) (by omega) (by omega), w32_id (z := (s : Int)) (by omega) (by omega)]
        refine OK_if (fun c => ?_) (fun c => ?_)
        · rw [OK_some, LQ_r]
          have : i = n := by omega
          subst this
          exact ⟨H, hf⟩
        · have c1 := b161 i
          have c4 := b164 i
          have cb := bb i (by omega)
          obtain ⟨N, hN⟩ := Int.eq_ofNat_of_zero_le c4.1
          have skip : ¬ (i ≠ s ∧ m 161 i ≠ -1) → LQ (fun (s' : Int × Hp) => i < n ∧ (i + 1 ≤ n ∧ ∃ h : Hp, s' = (((i + 1 : Nat) : Int), h) ∧ UWm na (fun a w => ofK m a w nk + ofB m s a w (i + 1)) (fun a => alK m a nk + alBu m s a (i + 1)) h ∧ ∀ e j, e ≠ 194 → e ≠ 195 → h e j = m e j)) (fun (h : Hp) => UWm na (fun a w => ofK m a w nk + ofB m s a w n) (fun a => alK m a nk + alBu m s a n) h ∧ ∀ e j, e ≠ 194 → e ≠ 195 → h e j = m e j) (Sum.inl ((i : Int) + 1, h)) := by
            intro hq
            rw [LQ_l]
            exact ⟨by omega, by omega, h, rfl, UWm_cg (fun a w => by rw [ofB_s, if_neg (fun q => hq ⟨q.1, q.2.1⟩), Nat.add_zero]) (fun a => by rw [alBu_s, if_neg (fun q => hq ⟨q.1, q.2.1⟩), Nat.add_zero]) H, hf⟩
          refine OK_if (fun d => ?_) (fun d => OK_gi (by omega) (by omega) (by omega) ?_)
          · rw [OK_some]
            exact skip (fun q => q.1 (by omega))
          · simp only [tn, hf 161 i (by decide) (by decide), w32_id (z := m 161 i) (by omega) (by omega), show w32 (-1) = -1 from rfl]
            refine OK_if (fun d3 => ?_) (fun d3 => ?_)
            · have dis : i ≠ s := fun r => d (by rw [r])
              obtain ⟨K, hK⟩ := Int.eq_ofNat_of_zero_le (show 0 ≤ m 161 i by omega)
              have ba := b154 K
              have bd := d2 K (by omega)
              obtain ⟨A, hA⟩ := Int.eq_ofNat_of_zero_le ba.1
              rw [OK_bindE]
              refine OK_mono (iter_up (fun p st => p ≤ N ∧ ∃ g : Hp, st = ((p : Int), g) ∧ UWm na (fun a w => ofK m a w nk + ofB m s a w i + (if m 154 K = (a : Int) then ctW (fun p => m 165 (8 * i + p)) w p else 0)) (fun a => alK m a nk + alBu m s a i + (if m 154 K = (a : Int) then p else 0)) g ∧ ∀ e j, e ≠ 194 → e ≠ 195 → g e j = m e j) (fun g => UWm na (fun a w => ofK m a w nk + ofB m s a w (i + 1)) (fun a => alK m a nk + alBu m s a (i + 1)) g ∧ ∀ e j, e ≠ 194 → e ≠ 195 → g e j = m e j) N (by omega) (fun p st hp hI => ?_) ⟨Nat.zero_le _, h, rfl, UWm_cg (fun a w => by rw [show ctW (fun p => m 165 (8 * i + p)) w 0 = 0 from rfl]; split <;> rfl) (fun a => by split <;> rfl) H, hf⟩) (fun g hg => ?_)
              · obtain ⟨-, g, rfl, G, gf⟩ := hI
                unfold X12_gathersWords_l75
                dsimp only
                refine OK_gi (by omega) (by omega) (by omega) ?_
                simp only [wtn i rfl (by omega), gf 164 i (by decide) (by decide), gf 161 i (by decide) (by decide), hN, hK, w32_id (z := (N : Int)) (by omega) (by omega), w32_id (z := (p : Int)) (by omega) (by omega)]
                refine OK_if (fun e => ?_) (fun e => OK_gi (by omega) (by omega) (by omega) (OK_gi (by omega) (by omega) (by omega) (OK_gi (by omega) (by omega) (by omega) ?_)))
                · rw [OK_some, LQ_r]
                  have hpN : p = N := by omega
                  refine ⟨UWm_cg (fun a w => ?_) (fun a => ?_) G, gf⟩
                  · rw [ofB_s, hN, hK, tn, tn, hpN]
                    by_cases q : m 154 K = (a : Int)
                    · rw [if_pos q, if_pos ⟨dis, by omega, q⟩, Nat.add_assoc]
                    · rw [if_neg q, if_neg (fun r => q r.2.2)]
                      rfl
                  · rw [alBu_s, hN, hK, tn, tn, hpN]
                    by_cases q : m 154 K = (a : Int)
                    · rw [if_pos q, if_pos ⟨dis, by omega, q⟩, Nat.add_assoc]
                    · rw [if_neg q, if_neg (fun r => q r.2.2)]
                      rfl
                · have c2 := b165 (8 * i + p)
                  obtain ⟨w, hw⟩ := Int.eq_ofNat_of_zero_le c2.1
                  simp only [wtn K rfl (by omega), wtn (v := 8 * (i : Int) + (p : Int)) (8 * i + p) (by omega) (by omega), gf 154 K (by decide) (by decide), gf 165 (8 * i + p) (by decide) (by decide)]
                  rw [OK_bindE]
                  refine OK_mono (counts_s hA hw (by omega) (by omega) (by omega) G) (fun u hu => ?_)
                  rw [OK_some, LQ_l]
                  refine ⟨by omega, by omega, u, rfl, UWm_cg (fun a v => ?_) (fun a => ?_) hu.1, fun e j q1 q2 => by rw [hu.2 e j q1 q2, gf e j q1 q2]⟩
                  · by_cases q : m 154 K = (a : Int)
                    · rw [if_pos q, if_pos q, ctW_s, hw]
                      by_cases q2 : w = v
                      · rw [if_pos ⟨by omega, q2⟩, if_pos (by rw [q2]), Nat.add_assoc]
                      · rw [if_neg (fun r => q2 r.2), if_neg (by omega), Nat.add_zero, Nat.add_zero]
                    · rw [if_neg q, if_neg q, if_neg (fun r => q (by omega))]
                  · by_cases q : m 154 K = (a : Int)
                    · rw [if_pos q, if_pos q, if_pos (by omega), Nat.add_assoc]
                    · rw [if_neg q, if_neg q, if_neg (by omega)]
              · rw [OK_some, LQ_l]
                exact ⟨by omega, by omega, g, rfl, hg⟩
            · rw [OK_some]
              exact skip (fun q => q.2 (by omega))
