/-! SURE: the one side compares all -/
theorem cmpA_s {N : Nat} {A : Nat → Nat → Bool} {g : Nat → Nat → Int} {h : Hp} (G : okG N A g) (H : grX N A g h) (T : tbX N A g h 1) (h14 : h 66 14 = (VV N A g 0 10).1) (hN1 : 1 ≤ N) (h0 : (VV N A g 0 10).2 ≠ 0) : OK (X5_compareAll h) (fun z => (∀ l i, l < N → i < N → (btA (z 76 l) i = false ↔ ∀ t, brP N A g t l → t.testBit i = true)) ∧ ∀ e j, e ≠ 75 → e ≠ 76 → z e j = h e j) := by
  obtain ⟨hN, hAN, h10, hg⟩ := id G
  obtain ⟨h5, -, -⟩ := id H
  have s10 := p2_10 hN
  have pN1 : 1 ≤ 2 ^ N := Nat.one_le_two_pow
  unfold X5_compareAll
  rw [OK_bindE]
  refine OK_mono (iter_up (fun p st => p ≤ 10 ∧ ∃ u : Hp, st = ((p : Int), u) ∧ (∀ c, c < p → u 76 c = 0) ∧ ∀ e j, e ≠ 76 → u e j = h e j) (fun u => (∀ c, c < 10 → u 76 c = 0) ∧ ∀ e j, e ≠ 76 → u e j = h e j) 10 (by omega) (fun p st hp hI => ?_) ⟨Nat.zero_le _, h, rfl, fun c hc => by omega, fun _ _ _ => rfl⟩) (fun a ha => ?_)
  · obtain ⟨-, u, rfl, hu, uf⟩ := hI
    unfold X5_compareAll_l2
    dsimp only
    simp only [w32_id (z := (p : Int)) (by omega) (by omega), show w32 10 = 10 from rfl]
    refine OK_if (fun c => ?_) (fun c => OK_gi (by omega) (by omega) (by omega) ?_)
    · rw [OK_some, LQ_r]
      exact ⟨fun c hc => hu c (by omega), uf⟩
    · rw [OK_some, LQ_l, tn]
      refine ⟨by omega, by omega, _, rfl, fun c hc => ?_, fun e j q => by rw [setH_o q, uf e j q]⟩
      by_cases e : c = p
      · rw [e, setH_s]
      · rw [setH_n e]
        exact hu c (by omega)
  · obtain ⟨a76, af⟩ := ha
    rw [OK_bindE]
    refine OK_mono (iter_up (fun p st => p ≤ 1024 ∧ ∃ u : Hp, st = ((p : Int), u) ∧ (∀ c, c < p → u 75 c = 0) ∧ ∀ e j, e ≠ 75 → u e j = a e j) (fun u => (∀ c, c < 1024 → u 75 c = 0) ∧ ∀ e j, e ≠ 75 → u e j = a e j) 1024 (by omega) (fun p st hp hI => ?_) ⟨Nat.zero_le _, a, rfl, fun c hc => by omega, fun _ _ _ => rfl⟩) (fun b hb => ?_)
    · obtain ⟨-, u, rfl, hu, uf⟩ := hI
      unfold X5_compareAll_l14
      dsimp only
      simp only [w32_id (z := (p : Int)) (by omega) (by omega), show w32 1024 = 1024 from rfl]
      refine OK_if (fun c => ?_) (fun c => OK_gi (by omega) (by omega) (by omega) ?_)
      · rw [OK_some, LQ_r]
        exact ⟨fun c hc => hu c (by omega), uf⟩
      · rw [OK_some, LQ_l, tn]
        refine ⟨by omega, by omega, _, rfl, fun c hc => ?_, fun e j q => by rw [setH_o q, uf e j q]⟩
        by_cases e : c = p
        · rw [e, setH_s]
        · rw [setH_n e]
          exact hu c (by omega)
    · obtain ⟨b75, bf⟩ := hb
      have bh : ∀ e j, e ≠ 75 → e ≠ 76 → b e j = h e j := fun e j q1 q2 => by rw [bf e j q1, af e j q2]
      have gr : ∀ u : Hp, (∀ e j, e ≠ 75 → e ≠ 76 → u e j = h e j) → grX N A g u ∧ tbX N A g u 1 := fun u uf => ⟨grX_cg (uf 66 5 (by decide) (by decide)) (funext fun j => uf 70 j (by decide) (by decide)) (funext fun j => uf 71 j (by decide) (by decide)) H, fun t a q1 q2 q3 q4 => by rw [uf 72 _ (by decide) (by decide), uf 73 _ (by decide) (by decide)]; exact T t a q1 q2 q3 q4⟩
      rw [OK_bindE, bh 66 14 (by decide) (by decide)]
      refine OK_mono (markX_s G (gr b bh).1 (gr b bh).2 (s := 0) (l := 10) (v := -1) (by omega) rfl (Or.inr rfl) h14) (fun c hc => ?_)
      obtain ⟨c75, cf⟩ := hc
      have ch : ∀ e j, e ≠ 75 → e ≠ 76 → c e j = h e j := fun e j q1 q2 => by rw [cf e j q1, bh e j q1 q2]
      have c76 : ∀ l, l < 10 → c 76 l = 0 := fun l hl => by rw [cf 76 l (by decide), bf 76 l (by decide), a76 l hl]
      have c75' : ∀ t a, t < 2 ^ N → a < N → (btA (c 75 t) a = true ↔ mkP N A g 1 t a) := fun t a q1 q2 => by
        rw [c75 t a q1 q2, b75 t (by omega), btA_0, mk_s]
        constructor
        · intro q
          rcases q with q | ⟨q3, q4⟩
          · cases q
          · exact Or.inr ⟨10, brP_0 N A g, q3, q4⟩
        · intro q
          rcases q with q | ⟨l', q3, q4, q5⟩
          · exact absurd q mk_0
          · obtain ⟨-, -, r⟩ := brP_ok h0 q3
            rcases r with ⟨-, r⟩ | ⟨r, -⟩
            · subst r
              exact Or.inr ⟨q4, q5⟩
            · exact absurd rfl r
      rw [OK_bindE]
      refine OK_mono (iter_up (fun p st => p + 1 ≤ 2 ^ N ∧ ∃ u : Hp, st = (((p + 1 : Nat) : Int), u) ∧ (∀ t a, t < 2 ^ N → a < N → (btA (u 75 t) a = true ↔ mkP N A g (p + 1) t a)) ∧ (∀ l i, l < N → i < N → (btA (u 76 l) i = true ↔ ∃ t, t < p + 1 ∧ t ≠ 0 ∧ brP N A g t l ∧ t.testBit i = false)) ∧ ∀ e j, e ≠ 75 → e ≠ 76 → u e j = h e j) (fun u => (∀ l i, l < N → i < N → (btA (u 76 l) i = true ↔ ∃ t, t < 2 ^ N ∧ t ≠ 0 ∧ brP N A g t l ∧ t.testBit i = false)) ∧ ∀ e j, e ≠ 75 → e ≠ 76 → u e j = h e j) (2 ^ N) (by omega) (fun p st hp hI => ?_) ⟨by omega, c, rfl, c75', fun l i q1 q2 => ?_, ch⟩) (fun z hz => ?_)
      · obtain ⟨hp1, u, rfl, u75, u76, uf⟩ := hI
        unfold X5_compareAll_l32
        dsimp only
        simp only [uf 66 5 (by decide) (by decide), h5]
        rw [shl32_n (by omega)]
        simp only [w32_id (z := ((2 ^ N : Nat) : Int)) (by omega) (by omega), w32_id (z := ((p + 1 : Nat) : Int)) (by omega) (by omega), show w32 1024 = 1024 from rfl]
        refine OK_if (fun d => ?_) (fun d => OK_gn (by omega) ?_)
        · rw [OK_some, LQ_r]
          refine ⟨fun l i q1 q2 => ?_, uf⟩
          rw [u76 l i q1 q2, show p + 1 = 2 ^ N from by omega]
        · rw [OK_bindE]
          refine OK_mono (iter_up (fun l st => l ≤ N ∧ ∃ w : Hp, st = ((l : Int), w) ∧ (∀ t a, t < 2 ^ N → a < N → (btA (w 75 t) a = true ↔ mkP N A g (p + 1) t a ∨ ∃ l', l' < l ∧ brP N A g (p + 1) l' ∧ nxP N A g (p + 1) l' a ∧ t = (p + 1) ||| 2 ^ a)) ∧ (∀ l' i, l' < N → i < N → (btA (w 76 l') i = true ↔ (∃ t, t < p + 1 ∧ t ≠ 0 ∧ brP N A g t l' ∧ t.testBit i = false) ∨ (l' < l ∧ brP N A g (p + 1) l' ∧ (p + 1).testBit i = false))) ∧ ∀ e j, e ≠ 75 → e ≠ 76 → w e j = h e j) (fun w => (∀ t a, t < 2 ^ N → a < N → (btA (w 75 t) a = true ↔ mkP N A g (p + 1 + 1) t a)) ∧ (∀ l i, l < N → i < N → (btA (w 76 l) i = true ↔ ∃ t, t < p + 1 + 1 ∧ t ≠ 0 ∧ brP N A g t l ∧ t.testBit i = false)) ∧ ∀ e j, e ≠ 75 → e ≠ 76 → w e j = h e j) N (by omega) (fun l st hl hI => ?_) ⟨Nat.zero_le _, u, rfl, fun t a q1 q2 => ?_, fun l i q1 q2 => ?_, uf⟩) (fun w hw => ?_)
          · obtain ⟨-, w, rfl, w75, w76, wf⟩ := hI
            unfold X5_compareAll_l43 X5_compareAll_j81
            dsimp only
            simp only [wf 66 5 (by decide) (by decide), h5, w32_id (z := (N : Int)) (by omega) (by omega), w32_id (z := (l : Int)) (by omega) (by omega)]
            refine OK_if (fun e => ?_) (fun e => OK_gi (by omega) (by omega) (by omega) ?_)
            · rw [OK_some, LQ_r]
              refine ⟨fun t a q1 q2 => ?_, fun l' i q1 q2 => ?_, wf⟩
              · rw [w75 t a q1 q2, mk_s (s := p + 1)]
                constructor
                · intro q
                  rcases q with q | ⟨l', -, q⟩
                  · exact Or.inl q
                  · exact Or.inr ⟨l', q⟩
                · intro q
                  rcases q with q | ⟨l', q3, q4⟩
                  · exact Or.inl q
                  · obtain ⟨-, -, r⟩ := brP_ok h0 q3
                    rcases r with ⟨r, -⟩ | ⟨-, r, -⟩
                    · omega
                    · exact Or.inr ⟨l', by omega, q3, q4⟩
              · rw [w76 l' i q1 q2]
                constructor
                · intro q
                  rcases q with ⟨t, q3, q4⟩ | ⟨-, q4, q5⟩
                  · exact ⟨t, by omega, q4⟩
                  · exact ⟨p + 1, by omega, by omega, q4, q5⟩
                · intro ⟨t, q3, q4, q5⟩
                  by_cases f : t = p + 1
                  · subst f
                    exact Or.inr ⟨by omega, q5⟩
                  · exact Or.inl ⟨t, by omega, q4, q5⟩
            · have hlN : l < N := by omega
              have mark : btA (w 75 (p + 1)) l = true ↔ brP N A g (p + 1) l := by
                rw [w75 (p + 1) l (by omega) hlN]
                constructor
                · intro q
                  rcases q with q | ⟨l', -, -, q3, q4⟩
                  · exact mk_brP q
                  · have := or2_gt (mayB_nb (cdV_nz.mp q3.2.1).1)
                    omega
                · intro q
                  rcases brP_mk q with ⟨r, -⟩ | r
                  · omega
                  · exact Or.inl r
              simp only [wtn (p + 1) rfl (by omega)]
              rw [btA_bit _ (by omega)]
              by_cases f : btA (w 75 (p + 1)) l = true
              · have fb := mark.mp f
                obtain ⟨k1, k2, k3⟩ := brP_ok h0 fb
                have k4 : (p + 1).testBit l = true := by
                  rcases k3 with ⟨r, -⟩ | ⟨-, -, r⟩
                  · omega
                  · exact r
                rw [if_pos f]
                refine OK_gn (fun q => q rfl) ?_
                rw [at_e (a := 76) (n := 10) l rfl (by omega) (by omega), OK_bindE, OK_some, put_e (a := 76) (n := 10) l rfl (by omega) (by omega), OK_bindE, OK_some, at_e (a := 72) (n := 10240) (10 * (p + 1) + l) (by omega) (by omega) (by omega), OK_bindE, OK_some, setH_o (by decide), wf 72 _ (by decide) (by decide), (T (p + 1) l (by omega) (by omega) hlN k4).1, OK_bindE]
                have wf2 : ∀ e j, e ≠ 75 → e ≠ 76 → (setH w 76 l (or32 (w 76 l) (xor32 ((p + 1 : Nat) : Int) (-1)))) e j = h e j := fun e j q1 q2 => by rw [setH_o q2, wf e j q1 q2]
                refine OK_mono (markX_s G (gr _ wf2).1 (gr _ wf2).2 (s := p + 1) (l := l) (by omega) (by unfold lIx; rw [if_neg (by omega)]) (Or.inl hlN) (by unfold mpV; rw [if_neg k2])) (fun y hy => ?_)
                obtain ⟨y75, yf⟩ := hy
                rw [OK_some, LQ_l]
                refine ⟨hlN, by omega, y, rfl, fun t a q1 q2 => ?_, fun l' i q1 q2 => ?_, fun e j q1 q2 => by rw [yf e j q1, wf2 e j q1 q2]⟩
                · rw [y75 t a q1 q2, setH_o (by decide), w75 t a q1 q2]
                  constructor
                  · intro q
                    rcases q with (q | ⟨l', q3, q4⟩) | q
                    · exact Or.inl q
                    · exact Or.inr ⟨l', by omega, q4⟩
                    · exact Or.inr ⟨l, by omega, fb, q⟩
                  · intro q
                    rcases q with q | ⟨l', q3, q4, q5⟩
                    · exact Or.inl (Or.inl q)
                    · by_cases r : l' = l
                      · subst r
                        exact Or.inr q5
                      · exact Or.inl (Or.inr ⟨l', by omega, q4, q5⟩)
                · rw [yf 76 l' (by decide)]
                  by_cases r : l' = l
                  · subst r
                    rw [setH_s, btA_or, btA_not (by omega) (by omega), Bool.or_eq_true, w76 l' i q1 q2, Bool.not_eq_true']
                    constructor
                    · intro q
                      rcases q with (q | q) | q
                      · exact Or.inl q
                      · omega
                      · exact Or.inr ⟨by omega, fb, q⟩
                    · intro q
                      rcases q with q | q
                      · exact Or.inl (Or.inl q)
                      · exact Or.inr q.2.2
                  · rw [setH_n r, w76 l' i q1 q2]
                    constructor
                    · intro q
                      rcases q with q | q
                      · exact Or.inl q
                      · exact Or.inr ⟨by omega, q.2⟩
                    · intro q
                      rcases q with q | q
                      · exact Or.inl q
                      · exact Or.inr ⟨by omega, q.2⟩
              · have nb : ¬ brP N A g (p + 1) l := fun q => f (mark.mpr q)
                rw [if_neg f]
                refine OK_gd (by decide) ?_
                rw [OK_some, LQ_l]
                refine ⟨hlN, by omega, w, rfl, fun t a q1 q2 => ?_, fun l' i q1 q2 => ?_, wf⟩
                · rw [w75 t a q1 q2]
                  constructor
                  · intro q
                    rcases q with q | ⟨l', q3, q4⟩
                    · exact Or.inl q
                    · exact Or.inr ⟨l', by omega, q4⟩
                  · intro q
                    rcases q with q | ⟨l', q3, q4, q5⟩
                    · exact Or.inl q
                    · by_cases r : l' = l
                      · subst r
                        exact absurd q4 nb
                      · exact Or.inr ⟨l', by omega, q4, q5⟩
                · rw [w76 l' i q1 q2]
                  constructor
                  · intro q
                    rcases q with q | q
                    · exact Or.inl q
                    · exact Or.inr ⟨by omega, q.2⟩
                  · intro q
                    rcases q with q | q
                    · exact Or.inl q
                    · by_cases r : l' = l
                      · subst r
                        exact absurd q.2.1 nb
                      · exact Or.inr ⟨by omega, q.2⟩
          · rw [u75 t a q1 q2]
            exact ⟨fun q => Or.inl q, fun q => by rcases q with q | ⟨l', q, -⟩; exact q; omega⟩
          · rw [u76 l i q1 q2]
            exact ⟨fun q => Or.inl q, fun q => by rcases q with q | ⟨q, -⟩; exact q; omega⟩
          · obtain ⟨w1, w2, w3⟩ := hw
            rw [OK_some, LQ_l]
            exact ⟨by omega, by omega, w, rfl, w1, w2, w3⟩
      · rw [c76 l (by omega), btA_0]
        exact ⟨fun q => (by cases q), fun ⟨t, q3, q4, _⟩ => (by omega)⟩
      · obtain ⟨z1, z2⟩ := hz
        rw [OK_some]
        refine ⟨fun l i q1 q2 => ?_, z2⟩
        constructor
        · intro q t ht
          cases r : t.testBit i with
          | true => rfl
          | false =>
            obtain ⟨k1, -, k3⟩ := brP_ok h0 ht
            have nz : t ≠ 0 := by
              rcases k3 with ⟨-, k⟩ | ⟨k, -⟩
              · omega
              · exact k
            rw [(z1 l i q1 q2).mpr ⟨t, k1, nz, ht, r⟩] at q
            cases q
        · intro q
          cases r : btA (z 76 l) i with
          | false => rfl
          | true =>
            obtain ⟨t, -, -, t3, t4⟩ := (z1 l i q1 q2).mp r
            rw [q t t3] at t4
            cases t4
