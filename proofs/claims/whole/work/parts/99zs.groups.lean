/-! GROUPS on both sides -/
theorem cnBt_full {f : Nat → Bool} : ∀ n, n ≤ cnBt f n → ∀ i, i < n → f i = true := by
  intro n
  induction n with
  | zero => intro _ i hi; omega
  | succ n ih =>
    intro h i hi
    have l := cnBt_le f n
    cases hf : f n with
    | false =>
      rw [cnBt_n hf] at h
      omega
    | true =>
      rw [cnBt_t hf] at h
      by_cases e : i = n
      · subst e
        exact hf
      · exact ih (by omega) i (by omega)
theorem BSt_inj {v : Int} {f g : Nat → Bool} (H : BSt v f) (G : BSt v g) : ∀ i, f i = g i := by
  obtain ⟨u, e1, -, hu⟩ := H
  obtain ⟨t, e2, -, ht⟩ := G
  have : u = t := by omega
  intro i
  rw [← hu, ← ht, this]
theorem turn_s {h : Hp} {T : Nat → Nat → Bool} {nw : Nat} {tt : Int} (h8 : nw ≤ 8) (H : ∀ x, x < nw → BSt (h 186 x) (T x)) (hnw : h 150 4 = (nw : Int)) {v : Int} {S : Nat → Bool} (HS : BSt v S) : OK (iter (X12_groups_l104 tt) FU (v, 0, h)) (fun z => ∃ u, z = (u, h) ∧ BSt u (inN T S nw)) := by
  refine iter_up (fun p s => p ≤ nw ∧ ∃ u : Int, s = (u, (p : Int), h) ∧ BSt u (inN T S p)) _ nw (by omega) (fun p s hp hI => ?_) ⟨Nat.zero_le _, v, rfl, HS⟩
  obtain ⟨-, u, rfl, hu⟩ := hI
  unfold X12_groups_l104 X12_groups_j120
  dsimp only
  simp only [hnw, w32_id (z := (nw : Int)) (by omega) (by omega), w32_id (z := (p : Int)) (by omega) (by omega)]
  refine OK_if (fun c => ?_) (fun c => ?_)
  · rw [OK_some, LQ_r]
    have : p = nw := by omega
    subst this
    exact ⟨u, rfl, hu⟩
  · rw [BSt_has hu (by omega), OK_bindE, OK_some]
    by_cases d : inN T S p p = true
    · rw [if_pos d]
      refine OK_gn (by decide) (OK_gi (by omega) (by omega) (by omega) ?_)
      rw [tn, OK_some, LQ_l]
      refine ⟨by omega, by omega, _, rfl, ?_⟩
      rw [inN_s, if_pos d]
      exact BSt_or hu (H p (by omega))
    · rw [if_neg d]
      refine OK_gd (by decide) ?_
      rw [OK_some, LQ_l]
      refine ⟨by omega, by omega, _, rfl, ?_⟩
      rw [inN_s, if_neg d]
      exact BSt_cg (fun i => by rw [Bool.or_false]) (BSt_or hu BSt_0)
theorem turns_s {h : Hp} {T : Nat → Nat → Bool} {nw : Nat} (h8 : nw ≤ 8) (H : ∀ x, x < nw → BSt (h 186 x) (T x)) (hnw : h 150 4 = (nw : Int)) {v : Int} {S : Nat → Bool} (HS : BSt v S) : OK (iter X12_groups_l98 FU (v, 0, h)) (fun z => ∃ u, z = (u, h) ∧ BSt u (tuN T nw S nw)) := by
  refine iter_up (fun t s => t ≤ nw ∧ ∃ u : Int, s = (u, (t : Int), h) ∧ BSt u (tuN T nw S t)) _ nw (by omega) (fun t s ht hI => ?_) ⟨Nat.zero_le _, v, rfl, HS⟩
  obtain ⟨-, u, rfl, hu⟩ := hI
  unfold X12_groups_l98
  dsimp only
  simp only [hnw, w32_id (z := (nw : Int)) (by omega) (by omega), w32_id (z := (t : Int)) (by omega) (by omega)]
  refine OK_if (fun c => ?_) (fun c => ?_)
  · rw [OK_some, LQ_r]
    have : t = nw := by omega
    subst this
    exact ⟨u, rfl, hu⟩
  · rw [OK_bindE]
    refine OK_mono (turn_s (tt := (t : Int)) h8 H hnw hu) (fun z hz => ?_)
    obtain ⟨w, rfl, hw⟩ := hz
    rw [OK_some, LQ_l]
    exact ⟨by omega, by omega, w, rfl, hw⟩
theorem stays_s {h : Hp} {T : Nat → Nat → Bool} {nw : Nat} (h8 : nw ≤ 8) (H : ∀ x, x < nw → BSt (h 186 x) (T x)) (hnw : h 150 4 = (nw : Int)) {v : Int} {F : Nat → Bool} (HF : BSt v F) (hT : ∀ a b, a < nw → T a b = true → b < nw) (hS : ∀ a b, a < nw → b < nw → T a b = T b a) (hC : clsD T nw F) : OK (iter X12_groups_l128 FU (v, 0, h)) (fun z => ∃ u, z = (u, h) ∧ BSt u F) := by
  refine iter_up (fun t s => t ≤ nw ∧ ∃ u : Int, s = (u, (t : Int), h) ∧ BSt u F) _ nw (by omega) (fun t s ht hI => ?_) ⟨Nat.zero_le _, v, rfl, HF⟩
  obtain ⟨-, u, rfl, hu⟩ := hI
  unfold X12_groups_l128
  dsimp only
  simp only [hnw, w32_id (z := (nw : Int)) (by omega) (by omega), w32_id (z := (t : Int)) (by omega) (by omega)]
  refine OK_if (fun c => ?_) (fun c => ?_)
  · rw [OK_some, LQ_r]
    exact ⟨u, rfl, hu⟩
  · rw [OK_bindE]
    refine OK_mono (iter_up (fun p s => p ≤ nw ∧ ∃ u : Int, s = (u, (p : Int), h) ∧ BSt u F) (fun z => ∃ u, z = (u, h) ∧ BSt u F) nw (by omega) (fun p s hp hI => ?_) ⟨Nat.zero_le _, u, rfl, hu⟩) (fun z hz => ?_)
    · obtain ⟨-, u, rfl, hu⟩ := hI
      unfold X12_groups_l134 X12_groups_j152
      dsimp only
      simp only [hnw, w32_id (z := (nw : Int)) (by omega) (by omega), w32_id (z := (p : Int)) (by omega) (by omega)]
      refine OK_if (fun d => ?_) (fun d => OK_gi (by omega) (by omega) (by omega) ?_)
      · rw [OK_some, LQ_r]
        exact ⟨u, rfl, hu⟩
      · have hpn : p < nw := by omega
        have A := BSt_and (H p hpn) hu
        simp only [tn, (BSt_w A).1]
        refine OK_if (fun e => ?_) (fun e => OK_gi (by omega) (by omega) (by omega) ?_)
        · rw [OK_some, LQ_l]
          exact ⟨by omega, by omega, u, rfl, hu⟩
        · rw [OK_some, LQ_l]
          refine ⟨by omega, by omega, _, rfl, BSt_cg (fun i => ?_) (BSt_or hu (H p hpn))⟩
          have ex : ∃ i, T p i = true ∧ F i = true := by
            refine Classical.byContradiction (fun q => e ((BSt_z A).mpr (fun i => ?_)))
            cases h1 : T p i with
            | false => rfl
            | true =>
              cases h2 : F i with
              | false => rfl
              | true => exact absurd ⟨i, h1, h2⟩ q
          obtain ⟨j, h1, h2⟩ := ex
          have hj := hT p j hpn h1
          have fp : F p = true := hC j p hj h2 (by rw [hS j p hj hpn]; exact h1)
          cases h3 : T p i with
          | false => rw [Bool.or_false]
          | true => rw [hC p i hpn fp h3, Bool.or_true]
    · obtain ⟨u2, rfl, hu2⟩ := hz
      rw [OK_some, LQ_l]
      exact ⟨by omega, by omega, u2, rfl, hu2⟩
theorem tiF_nw {m : Hp} {n t nw k a b : Nat} (ha : a < nw) (h : tiF m n t nw k a b = true) : b < nw := by
  unfold tiF at h
  rw [Bool.or_eq_true, Bool.and_eq_true, decide_eq_true_iff, decide_eq_true_iff] at h
  rcases h with h | h
  · omega
  · exact h.1
theorem tiF_sym {m : Hp} {n t nw k a b : Nat} (ha : a < nw) (hb : b < nw) : tiF m n t nw k a b = tiF m n t nw k b a := by
  unfold tiF
  rw [tyF_sym m n t b a, decide_eq_true ha, decide_eq_true hb]
  congr 1
  rw [decide_eq_decide]
  exact ⟨fun q => q.symm, fun q => q.symm⟩
theorem bfs_s {x m : Hp} (R : RS x m) (C : RC x m) {n t nw nk w : Nat} (hn : m 150 5 = (n : Int)) (ht : t ≤ 1000) (hnw : m 150 4 = (nw : Int)) (hnk : m 150 3 = (nk : Int)) (hw : w < nw) : OK (iter (X11_groups_l20 (t : Int)) FU (shl32 1 (w : Int), 0, 0, x)) (fun z => (∃ g, BSt z.1 g ∧ g w = true ∧ clsD (tiF m n t nw nk) nw g ∧ ∀ D, D w = true → clsD (tiF m n t nw nk) nw D → ∀ i, g i = true → D i = true) ∧ RC z.2 m ∧ ∀ e j, ¬ cXK e → z.2 e j = x e j) := by
  obtain ⟨-, S⟩ := id R
  obtain ⟨⟨b2, b3, b4, b5⟩, -⟩ := id S
  refine iter_up (fun r s => r ≤ 8 ∧ ∃ (G L : Int) (h : Hp) (g l : Nat → Bool), s = (G, L, (r : Int), h) ∧ BSt G g ∧ BSt L l ∧ (∀ i, l i = true → g i = true) ∧ g w = true ∧ (∀ i, g i = true → i < nw) ∧ (∀ a b, l a = true → tiF m n t nw nk a b = true → g b = true) ∧ (∀ D, D w = true → clsD (tiF m n t nw nk) nw D → ∀ i, g i = true → D i = true) ∧ r ≤ cnBt l 8 ∧ RC h m ∧ ∀ e j, ¬ cXK e → h e j = x e j) _ 8 (by omega) (fun r s hr hI => ?_) ⟨Nat.zero_le _, _, 0, x, _, _, rfl, BSt_sh (by omega), BSt_0, fun i h => (by cases h), decide_eq_true rfl, fun i h => (by rw [decide_eq_true_iff] at h; omega), fun a b h => (by cases h), fun D hD _ i h => (by rw [decide_eq_true_iff] at h; rw [h]; exact hD), Nat.zero_le _, C, fun _ _ _ => rfl⟩
  obtain ⟨hr8, G, L, h, g, l, rfl, hG, hL, hlg, hgw, hgn, hcl, hD, hct, hC, hf⟩ := hI
  have Rh : RS h m := RS_cK hf R
  obtain ⟨wG, G0, G1⟩ := BSt_w hG
  obtain ⟨wL, L0, L1⟩ := BSt_w hL
  unfold X11_groups_l20
  dsimp only
  simp only [wG, wL, w32_id (z := (r : Int)) (by omega) (by omega), show w32 8 = 8 from rfl]
  refine OK_if (fun c => ?_) (fun c => OK_if (fun d => ?_) (fun d => ?_))
  · rw [OK_some, LQ_r]
    refine ⟨⟨g, hG, hgw, fun a b ha _ hab => ?_, hD⟩, hC, hf⟩
    exact hcl a b (cnBt_full 8 (by omega) a (by omega)) hab
  · rw [OK_some, LQ_r]
    have e := BSt_inj (hG) (d ▸ hL)
    exact ⟨⟨g, hG, hgw, fun a b ha hga hab => hcl a b (by rw [← e]; exact hga) hab, hD⟩, hC, hf⟩
  · have A := BSt_an hG hL
    have hne : and32 G (xor32 L (-1)) ≠ 0 := fun q => d (by
      have z := (BSt_z A).mp q
      refine BSt_eq hL (BSt_cg (fun i => ?_) hG)
      have zi := z i
      cases h1 : l i with
      | true => exact hlg i h1
      | false =>
        rw [h1] at zi
        simpa using zi)
    obtain ⟨q, hq8, hq, eq⟩ := ntz_s A (fun i hi => by
      cases h1 : g i with
      | false => rfl
      | true =>
        have := hgn i h1
        omega) hne
    rw [Bool.and_eq_true, Bool.not_eq_true'] at hq
    have hqn := hgn q hq.1
    rw [eq, OK_bindE, OK_some, OK_bindE]
    refine OK_mono (iter_up (fun y s => y ≤ nw ∧ ∃ (G' : Int) (h' : Hp), s = (G', (y : Int), h') ∧ BSt G' (fun i => g i || (decide (i < y) && tiF m n t nw nk q i)) ∧ RC h' m ∧ ∀ e j, ¬ cXK e → h' e j = x e j) (fun z => BSt z.1 (fun i => g i || (decide (i < nw) && tiF m n t nw nk q i)) ∧ RC z.2 m ∧ ∀ e j, ¬ cXK e → z.2 e j = x e j) nw (by omega) (fun y s hy hI => ?_) ⟨Nat.zero_le _, G, h, rfl, BSt_cg (fun i => by simp) hG, hC, hf⟩) (fun z hz => ?_)
    · obtain ⟨-, G', h', rfl, hG', hC', hf'⟩ := hI
      have Rh' : RS h' m := RS_cK hf' R
      obtain ⟨⟨⟨-, -, i39, -⟩, -⟩, -⟩ := id Rh'
      unfold X11_groups_l41 X11_groups_j65 X7_writers
      dsimp only
      rw [OK_bindE, OK_some]
      simp only [i39, hnw, w32_id (z := (nw : Int)) (by omega) (by omega), w32_id (z := (y : Int)) (by omega) (by omega)]
      refine OK_if (fun e => ?_) (fun e => ?_)
      · rw [OK_some, LQ_r]
        have : y = nw := by omega
        subst this
        exact ⟨hG', hC', hf'⟩
      · have hyn : y < nw := by omega
        have skip : ∀ h2 : Hp, (g y || tiF m n t nw nk q y) = g y → RC h2 m → (∀ e j, ¬ cXK e → h2 e j = x e j) → LQ (fun (s' : Int × Int × Hp) => y < nw ∧ (y + 1 ≤ nw ∧ ∃ (G' : Int) (h' : Hp), s' = (G', ((y + 1 : Nat) : Int), h') ∧ BSt G' (fun i => g i || (decide (i < y + 1) && tiF m n t nw nk q i)) ∧ RC h' m ∧ ∀ e j, ¬ cXK e → h' e j = x e j)) (fun z : Int × Hp => BSt z.1 (fun i => g i || (decide (i < nw) && tiF m n t nw nk q i)) ∧ RC z.2 m ∧ ∀ e j, ¬ cXK e → z.2 e j = x e j) (Sum.inl (G', (y : Int) + 1, h2)) := by
          intro h2 hs hC2 hf2
          rw [LQ_l]
          refine ⟨by omega, by omega, G', h2, rfl, BSt_cg (fun i => ?_) hG', hC2, hf2⟩
          by_cases e2 : i = y
          · subst e2
            rw [decide_eq_false (show ¬ i < i by omega), decide_eq_true (show i < i + 1 by omega), Bool.false_and, Bool.true_and, Bool.or_false, hs]
          · have : (i < y) ↔ (i < y + 1) := by omega
            simp only [this]
        rw [BSt_bit hG' (by omega)]
        have fy : (g y || (decide (y < y) && tiF m n t nw nk q y)) = g y := by
          rw [decide_eq_false (show ¬ y < y by omega), Bool.false_and, Bool.or_false]
        rw [fy]
        cases gy : g y with
        | true =>
          refine OK_gd (by decide) ?_
          rw [OK_some]
          exact skip h' (by rw [gy, Bool.true_or]) hC' hf'
        | false =>
          refine OK_gn (by decide) ?_
          have hqy : y ≠ q := fun z => by
            rw [z, hq.1] at gy
            cases gy
          have tE : tiF m n t nw nk q y = tyF m n t q y nk := by
            unfold tiF
            rw [decide_eq_false hqy, decide_eq_true hyn, Bool.true_and, Bool.false_or]
          rw [OK_bindE]
          refine OK_mono (hadMid_s Rh' hC' (a := q) (b := y) hn (by omega) (by omega) ht hnk) (fun z hz => ?_)
          obtain ⟨z1, zC, zf⟩ := hz
          have zx : ∀ e j, ¬ cXK e → z.2 e j = x e j := fun e j r => by rw [zf e j r, hf' e j r]
          rw [z1, ← tE]
          cases tq : tiF m n t nw nk q y with
          | true =>
            refine OK_gn (by decide) ?_
            rw [OK_some, LQ_l]
            refine ⟨by omega, by omega, _, z.2, rfl, BSt_cg (fun i => ?_) (BSt_or hG' (BSt_sh (y := y) (by omega))), zC, zx⟩
            by_cases e2 : i = y
            · subst e2
              rw [decide_eq_true (show i = i from rfl), Bool.or_true, decide_eq_true (show i < i + 1 by omega), Bool.true_and, tq, Bool.or_true]
            · have : (i < y) ↔ (i < y + 1) := by omega
              rw [decide_eq_false e2, Bool.or_false]
              simp only [this]
          | false =>
            refine OK_gd (by decide) ?_
            rw [OK_some]
            exact skip z.2 (by rw [tq, Bool.or_false]) zC zx
    · obtain ⟨z1, zC, zf⟩ := hz
      rw [OK_some, LQ_l]
      refine ⟨by omega, by omega, z.1, _, z.2, _, _, rfl, z1, BSt_or hL (BSt_sh (y := q) (by omega)), fun i hi => ?_, ?_, fun i hi => ?_, fun a b ha hab => ?_, fun D hDw hDc i hi => ?_, ?_, zC, zf⟩
      · rw [Bool.or_eq_true, decide_eq_true_iff] at hi
        rw [Bool.or_eq_true]
        rcases hi with hi | hi
        · exact Or.inl (hlg i hi)
        · exact Or.inl (hi ▸ hq.1)
      · rw [hgw, Bool.true_or]
      · rw [Bool.or_eq_true, Bool.and_eq_true, decide_eq_true_iff] at hi
        rcases hi with hi | hi
        · exact hgn i hi
        · exact hi.1
      · rw [Bool.or_eq_true, decide_eq_true_iff] at ha
        rw [Bool.or_eq_true, Bool.and_eq_true, decide_eq_true_iff]
        rcases ha with ha | ha
        · exact Or.inl (hcl a b ha hab)
        · subst ha
          exact Or.inr ⟨tiF_nw hqn hab, hab⟩
      · rw [Bool.or_eq_true, Bool.and_eq_true, decide_eq_true_iff] at hi
        rcases hi with hi | hi
        · exact hD D hDw hDc i hi
        · exact hDc q i hqn (hD D hDw hDc q hq.1) hi.2
      · have := cnBt_lt 8 (f := l) (g := fun i => l i || decide (i = q)) (fun i _ hi => by rw [hi, Bool.true_or]) ⟨q, hq8, by rw [decide_eq_true rfl, Bool.or_true], hq.2⟩
        omega
theorem groups_b {x m : Hp} (R : RS x m) (C : RC x m) {a t : Int} (ha : I32 a) (ht : I32 t) : OK (X11_groups a t x) (fun z => OK (X12_groups a t m) (fun w => z.1 = w.1 ∧ RC z.2 m ∧ (∀ e j, ¬ cXK e → z.2 e j = x e j) ∧ ∀ e j, ¬ cMG e j → w.2 e j = m e j)) := by
  obtain ⟨⟨⟨-, e33, e39, e311⟩, -⟩, S⟩ := id R
  obtain ⟨⟨-, b3, b4, b5⟩, -⟩ := id S
  unfold X11_groups X12_groups
  simp only [x_isM (h := x) (by omega) (by omega), m_isM (h := m) (by omega) (by omega), e39, I32_w ha, I32_w ht, within_in (a := t) (b := 0) (c := 1000) (by omega) (by omega) ht.1 ht.2 (by omega) (by omega), lies_in (a := t) (b := 0) (c := 1000) (by have := ht.1; omega) (by have := ht.2; omega) (by omega) (by omega) (by omega) (by omega), Option.bind_some]
  have triv : ∀ (c : Prop), (-1 : Int) = -1 ∧ RC x m ∧ (∀ e j, ¬ cXK e → x e j = x e j) ∧ ∀ e j, ¬ cMG e j → m e j = m e j := fun _ => ⟨rfl, C, fun _ _ _ => rfl, fun _ _ _ => rfl⟩
  by_cases d1 : 0 ≤ a ∧ a < m 150 4
  · by_cases d2 : 0 ≤ t ∧ t ≤ 1000
    · simp only [if_pos d1, if_pos d2, q1, qn1, if_true, if_false]
      obtain ⟨w, rfl⟩ := Int.eq_ofNat_of_zero_le d1.1
      obtain ⟨t, rfl⟩ := Int.eq_ofNat_of_zero_le d2.1
      obtain ⟨n, hn⟩ := Int.eq_ofNat_of_zero_le b5.1
      obtain ⟨nw, hnw⟩ := Int.eq_ofNat_of_zero_le b4.1
      obtain ⟨nk, hnk⟩ := Int.eq_ofNat_of_zero_le b3.1
      have hw : w < nw := by omega
      have hTn : ∀ a b, a < nw → tiF m n t nw nk a b = true → b < nw := fun a b ha h => tiF_nw ha h
      have hcl := tuN_cl (T := tiF m n t nw nk) hw hTn
      obtain ⟨h0, e0, H0, F0⟩ := OK_ex (tied0_s (m := m) (a := (w : Int)) (t := (t : Int)) hnw (by omega))
      obtain ⟨h1, e1, H1, F1⟩ := OK_ex (tied_s R (a := (w : Int)) (t := t) hn (by omega) hnw hnk H0 F0)
      have n1 : h1 150 4 = (nw : Int) := by rw [F1 150 4 (by unfold cMG cMY cMH; omega), hnw]
      obtain ⟨z2, e2, v2, rfl, H2⟩ := OK_ex (turns_s (h := h1) (by omega) H1 n1 (BSt_sh (y := w) (by omega)))
      obtain ⟨z3, e3, v3, rfl, H3⟩ := OK_ex (stays_s (h := h1) (by omega) H1 n1 H2 hTn (fun a b ha hb => tiF_sym ha hb) hcl)
      rw [e0, Option.bind_some, e1, Option.bind_some, e2, Option.bind_some, e3, Option.bind_some, OK_bindE]
      refine OK_mono (bfs_s R C (w := w) hn (by omega) hnw hnk hw) (fun z hz => ?_)
      obtain ⟨⟨g, hG, hgw, hgc, hgD⟩, zC, zf⟩ := hz
      rw [OK_some, OK_some]
      refine ⟨BSt_eq hG (BSt_cg (fun i => ?_) H3), zC, zf, F1⟩
      rw [Bool.eq_iff_iff]
      exact ⟨fun h => tuN_sub hgc (fun j hj => by rw [decide_eq_true_iff] at hj; rw [hj]; exact hgw) nw i h, fun h => hgD _ (tuN_ge (decide_eq_true rfl) nw) hcl i h⟩
    · simp only [if_pos d1, if_neg d2, q0, q1, qn0, if_true, if_false]
      exact triv True
  · simp only [if_neg d1, q0, if_true]
    exact triv True
