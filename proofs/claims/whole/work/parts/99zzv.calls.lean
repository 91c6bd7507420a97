/-! ALL CALLS over all relations -/
theorem OK_and2 {α β : Type} {x : Option α} {y : Option β} {P : α → β → Prop} {Q : β → Prop} (h : OK x (fun a => OK y (fun b => P a b))) (k : OK y Q) : OK x (fun a => OK y (fun b => P a b ∧ Q b)) := OK_mono h (fun a ha => by
  obtain ⟨b, eb, hb⟩ := OK_ex ha
  rw [eb] at k ⊢
  exact ⟨hb, k⟩)
theorem work_k {m : Hp} (S : SB m) {a b : Int} (ha : I32 a) (hb : I32 b) : OK (X12_work a b m) (fun w => m 150 3 ≤ w.2 150 3) := by
  obtain ⟨⟨b2, b3, b4, b5⟩, -⟩ := id S
  obtain ⟨n, en⟩ := Int.eq_ofNat_of_zero_le b3.1
  unfold X12_work
  rw [m_isA (by omega) (by omega), I32_w ha, I32_w hb, lies_in (by have := hb.1; omega) (by have := hb.2; omega) (by omega) (by omega) (by omega) (by omega), en]
  simp only [w32_id (z := (n : Int)) (by omega) (by omega), show w32 8 = 8 from rfl]
  refine OK_if (fun c => by rw [OK_some]; dsimp only; omega) (fun c => ?_)
  rw [OK_bindE, OK_some]
  refine OK_if (fun d => by rw [OK_some]; dsimp only; omega) (fun d => ?_)
  rw [OK_bindE, OK_some]
  refine OK_if (fun d => OK_gi (by omega) (by omega) (by omega) (OK_gi (by omega) (by omega) (by omega) ?_)) (fun d => by rw [OK_some]; dsimp only; omega)
  rw [OK_some]
  dsimp only
  rw [setH_s]
  omega

theorem al_author {a b : Int} (ha : I32 a) (hb : I32 b) : ∀ x m, RAll x m → OK (X11_author a b x) (fun z => OK (X12_author a b m) (fun w => z.1 = w.1 ∧ RAll z.2 w.2 ∧ (∀ e j, 150 ≤ e → z.2 e j = x e j) ∧ ∀ e j, e < 150 → w.2 e j = m e j)) := by
  intro x m ⟨r1, r2, r3, r4, r5, ⟨r6, r7, r8, r9⟩, r10⟩
  refine OK2_mono (author_b r1 ha hb) (fun z w q => ?_)
  obtain ⟨e1, qS, zq, wq⟩ := q
  have zf : ∀ e j : Nat, ¬ (3 ≤ e ∧ e ≤ 5) → z.2 e j = x e j := fun e j q => congrFun (zq e q) j
  have wf : ∀ e j : Nat, ¬ ((e = 150 ∧ j = 2) ∨ e = 152 ∨ e = 153) → w.2 e j = m e j := fun e j q => wq e j (by omega) (by omega) (by omega)
  have p : RP z.2 w.2 := kpP (fun e j q => zf e j (by unfold fpP at q; omega)) (fun e j q => wf e j (by unfold gpP at q; omega)) r5
  exact ⟨e1, ⟨qS, kpT (fun e j q => zf e j (by unfold fpT at q; omega)) (fun e j q => wf e j (by unfold gpT at q; omega)) r2, kpC (fun e j q => zf e j (by unfold fpC at q; omega)) (fun e j q => wf e j (by unfold gpC at q; omega)) r3, kpE (fun e j q => zf e j (by unfold fpE at q; omega)) (fun e j q q' => wf e j (by unfold gpE at q; omega)) (by rw [wf 150 3 (by omega)]; exact Int.le_refl _) r4, p, ⟨kpA (fun e j q => zf e j (by unfold fpA at q; omega)) r6, kpt (fun j => zf 50 j (by omega)) r7, kph (fun j => zf 42 j (by omega)) r8, kpp (fun j => zf 34 j (by omega)) r9⟩, kpD r1.2 r5 p ⟨zf 28 0 (by omega), fun e j h1 h2 => zf e j (by omega)⟩ (fun e j q => zf e j (by unfold fpD at q; omega)) (fun e j q => wf e j (by unfold gpD at q; omega)) (fun i _ => wf 159 i (by omega)) r10⟩, fun e j q => zf e j (by omega), fun e j q => wf e j (by omega)⟩

theorem al_work {a b : Int} (ha : I32 a) (hb : I32 b) : ∀ x m, RAll x m → OK (X11_work a b x) (fun z => OK (X12_work a b m) (fun w => z.1 = w.1 ∧ RAll z.2 w.2 ∧ (∀ e j, 150 ≤ e → z.2 e j = x e j) ∧ ∀ e j, e < 150 → w.2 e j = m e j)) := by
  intro x m ⟨r1, r2, r3, r4, r5, ⟨r6, r7, r8, r9⟩, r10⟩
  refine OK2_mono (OK_and2 (work_b r1 ha hb) (work_k r1.2 ha hb)) (fun z w q => ?_)
  obtain ⟨⟨e1, qS, zq, wq⟩, wk⟩ := q
  have zf : ∀ e j : Nat, ¬ (e = 3 ∨ e = 6 ∨ e = 7) → z.2 e j = x e j := fun e j q => congrFun (zq e (by omega) (by omega) (by omega)) j
  have wf : ∀ e j : Nat, ¬ ((e = 150 ∧ j = 3) ∨ e = 154 ∨ e = 155) → w.2 e j = m e j := fun e j q => wq e j (by omega) (by omega) (by omega)
  have p : RP z.2 w.2 := kpP (fun e j q => zf e j (by unfold fpP at q; omega)) (fun e j q => wf e j (by unfold gpP at q; omega)) r5
  exact ⟨e1, ⟨qS, kpT (fun e j q => zf e j (by unfold fpT at q; omega)) (fun e j q => wf e j (by unfold gpT at q; omega)) r2, kpC (fun e j q => zf e j (by unfold fpC at q; omega)) (fun e j q => wf e j (by unfold gpC at q; omega)) r3, kpE (fun e j q => zf e j (by unfold fpE at q; omega)) (fun e j q q' => wf e j (by unfold gpE at q; omega)) wk r4, p, ⟨kpA (fun e j q => zf e j (by unfold fpA at q; omega)) r6, kpt (fun j => zf 50 j (by omega)) r7, kph (fun j => zf 42 j (by omega)) r8, kpp (fun j => zf 34 j (by omega)) r9⟩, kpD r1.2 r5 p ⟨zf 28 0 (by omega), fun e j h1 h2 => zf e j (by omega)⟩ (fun e j q => zf e j (by unfold fpD at q; omega)) (fun e j q => wf e j (by unfold gpD at q; omega)) (fun i _ => wf 159 i (by omega)) r10⟩, fun e j q => zf e j (by omega), fun e j q => wf e j (by omega)⟩

theorem al_writer {a : Int} (ha : I32 a) : ∀ x m, RAll x m → OK (X11_writer a x) (fun z => OK (X12_writer a m) (fun w => z.1 = w.1 ∧ RAll z.2 w.2 ∧ (∀ e j, 150 ≤ e → z.2 e j = x e j) ∧ ∀ e j, e < 150 → w.2 e j = m e j)) := by
  intro x m ⟨r1, r2, r3, r4, r5, ⟨r6, r7, r8, r9⟩, r10⟩
  refine OK2_mono (OK_and2 (writer_b r1 ha) (writer_k r1.2 ha)) (fun z w q => ?_)
  obtain ⟨⟨e1, qS, zq, wq⟩, wk⟩ := q
  have zf : ∀ e j : Nat, ¬ (e = 3 ∨ e = 11) → z.2 e j = x e j := fun e j q => congrFun (zq e (by omega) (by omega)) j
  have wf : ∀ e j : Nat, ¬ ((e = 150 ∧ j = 4) ∨ e = 159) → w.2 e j = m e j := fun e j q => wq e j (by omega) (by omega)
  have p : RP z.2 w.2 := kpP (fun e j q => zf e j (by unfold fpP at q; omega)) (fun e j q => wf e j (by unfold gpP at q; omega)) r5
  exact ⟨e1, ⟨qS, kpT (fun e j q => zf e j (by unfold fpT at q; omega)) (fun e j q => wf e j (by unfold gpT at q; omega)) r2, kpC (fun e j q => zf e j (by unfold fpC at q; omega)) (fun e j q => wf e j (by unfold gpC at q; omega)) r3, kpE (fun e j q => zf e j (by unfold fpE at q; omega)) (fun e j q q' => wf e j (by unfold gpE at q; omega)) (by rw [wf 150 3 (by omega)]; exact Int.le_refl _) r4, p, ⟨kpA (fun e j q => zf e j (by unfold fpA at q; omega)) r6, kpt (fun j => zf 50 j (by omega)) r7, kph (fun j => zf 42 j (by omega)) r8, kpp (fun j => zf 34 j (by omega)) r9⟩, kpD r1.2 r5 p ⟨zf 28 0 (by omega), fun e j h1 h2 => zf e j (by omega)⟩ (fun e j q => zf e j (by unfold fpD at q; omega)) (fun e j q => wf e j (by unfold gpD at q; omega)) wk r10⟩, fun e j q => zf e j (by omega), fun e j q => wf e j (by omega)⟩

theorem al_seed {a : Int} (ha : I32 a) : ∀ x m, RAll x m → OK (X11_seed a x) (fun z => OK (X12_seed a m) (fun w => z.1 = w.1 ∧ RAll z.2 w.2 ∧ (∀ e j, 150 ≤ e → z.2 e j = x e j) ∧ ∀ e j, e < 150 → w.2 e j = m e j)) := by
  intro x m ⟨r1, r2, r3, r4, r5, ⟨r6, r7, r8, r9⟩, r10⟩
  refine OK2_mono (seed_b r2 ha) (fun z w q => ?_)
  obtain ⟨e1, qT, zq, wq⟩ := q
  have zf : ∀ e j : Nat, ¬ (e = 0 ∧ j = 15) → z.2 e j = x e j := zq
  have wf : ∀ e j : Nat, ¬ (e = 150 ∧ j = 6) → w.2 e j = m e j := wq
  have p : RP z.2 w.2 := kpP (fun e j q => zf e j (by unfold fpP at q; omega)) (fun e j q => wf e j (by unfold gpP at q; omega)) r5
  exact ⟨e1, ⟨kpS (fun e j q => zf e j (by unfold fpS at q; omega)) (fun e j q => wf e j (by unfold gpS at q; omega)) r1, qT, kpC (fun e j q => zf e j (by unfold fpC at q; omega)) (fun e j q => wf e j (by unfold gpC at q; omega)) r3, kpE (fun e j q => zf e j (by unfold fpE at q; omega)) (fun e j q q' => wf e j (by unfold gpE at q; omega)) (by rw [wf 150 3 (by omega)]; exact Int.le_refl _) r4, p, ⟨kpA (fun e j q => zf e j (by unfold fpA at q; omega)) r6, kpt (fun j => zf 50 j (by omega)) r7, kph (fun j => zf 42 j (by omega)) r8, kpp (fun j => zf 34 j (by omega)) r9⟩, kpD r1.2 r5 p ⟨zf 28 0 (by omega), fun e j h1 h2 => zf e j (by omega)⟩ (fun e j q => zf e j (by unfold fpD at q; omega)) (fun e j q => wf e j (by unfold gpD at q; omega)) (fun i _ => wf 159 i (by omega)) r10⟩, fun e j q => zf e j (by omega), fun e j q => wf e j (by omega)⟩

theorem al_feed {a b c d e' : Int} (ha : I32 a) (hb : I32 b) (hc : I32 c) (hd : I32 d) (he' : I32 e') : ∀ x m, RAll x m → OK (X11_feed a b c d e' x) (fun z => OK (X12_feed a b c d e' m) (fun w => z.1 = w.1 ∧ RAll z.2 w.2 ∧ (∀ e j, 150 ≤ e → z.2 e j = x e j) ∧ ∀ e j, e < 150 → w.2 e j = m e j)) := by
  intro x m ⟨r1, r2, r3, r4, r5, ⟨r6, r7, r8, r9⟩, r10⟩
  refine OK2_mono (feed_b r2 a b c d e') (fun z w q => ?_)
  obtain ⟨e1, qT, zq, wq⟩ := q
  have zf : ∀ e j : Nat, ¬ ((e = 1 ∧ j = 1) ∨ e = 2) → z.2 e j = x e j := fun e j q => zq e j (by omega) (by omega)
  have wf : ∀ e j : Nat, ¬ ((e = 150 ∧ j = 1) ∨ e = 151) → w.2 e j = m e j := fun e j q => wq e j (by omega) (by omega)
  have p : RP z.2 w.2 := kpP (fun e j q => zf e j (by unfold fpP at q; omega)) (fun e j q => wf e j (by unfold gpP at q; omega)) r5
  exact ⟨e1, ⟨kpS (fun e j q => zf e j (by unfold fpS at q; omega)) (fun e j q => wf e j (by unfold gpS at q; omega)) r1, qT, kpC (fun e j q => zf e j (by unfold fpC at q; omega)) (fun e j q => wf e j (by unfold gpC at q; omega)) r3, kpE (fun e j q => zf e j (by unfold fpE at q; omega)) (fun e j q q' => wf e j (by unfold gpE at q; omega)) (by rw [wf 150 3 (by omega)]; exact Int.le_refl _) r4, p, ⟨kpA (fun e j q => zf e j (by unfold fpA at q; omega)) r6, kpt (fun j => zf 50 j (by omega)) r7, kph (fun j => zf 42 j (by omega)) r8, kpp (fun j => zf 34 j (by omega)) r9⟩, kpD r1.2 r5 p ⟨zf 28 0 (by omega), fun e j h1 h2 => zf e j (by omega)⟩ (fun e j q => zf e j (by unfold fpD at q; omega)) (fun e j q => wf e j (by unfold gpD at q; omega)) (fun i _ => wf 159 i (by omega)) r10⟩, fun e j q => zf e j (by omega), fun e j q => wf e j (by omega)⟩

theorem al_left {a b : Int} (ha : I32 a) (hb : I32 b) : ∀ x m, RAll x m → OK (X11_left a b x) (fun z => OK (X12_left a b m) (fun w => z.1 = w.1 ∧ RAll z.2 w.2 ∧ (∀ e j, 150 ≤ e → z.2 e j = x e j) ∧ ∀ e j, e < 150 → w.2 e j = m e j)) := by
  intro x m ⟨r1, r2, r3, r4, r5, ⟨r6, r7, r8, r9⟩, r10⟩
  refine OK2_mono (left_b r1 r2 r3 ha hb) (fun z w q => ?_)
  obtain ⟨e1, qS, qT, qC, zq, wq⟩ := q
  have zf : ∀ e j : Nat, ¬ ((e = 1 ∧ j = 1) ∨ e = 8 ∨ e = 9 ∨ e = 10) → z.2 e j = x e j := fun e j q => zq e j (by omega) (by omega) (by omega) (by omega)
  have wf : ∀ e j : Nat, ¬ ((e = 150 ∧ j = 1) ∨ e = 156 ∨ e = 157 ∨ e = 158) → w.2 e j = m e j := fun e j q => wq e j (by omega) (by omega) (by omega) (by omega)
  have p : RP z.2 w.2 := kpP (fun e j q => zf e j (by unfold fpP at q; omega)) (fun e j q => wf e j (by unfold gpP at q; omega)) r5
  exact ⟨e1, ⟨qS, qT, qC, kpE (fun e j q => zf e j (by unfold fpE at q; omega)) (fun e j q q' => wf e j (by unfold gpE at q; omega)) (by rw [wf 150 3 (by omega)]; exact Int.le_refl _) r4, p, ⟨kpA (fun e j q => zf e j (by unfold fpA at q; omega)) r6, kpt (fun j => zf 50 j (by omega)) r7, kph (fun j => zf 42 j (by omega)) r8, kpp (fun j => zf 34 j (by omega)) r9⟩, kpD r1.2 r5 p ⟨zf 28 0 (by omega), fun e j h1 h2 => zf e j (by omega)⟩ (fun e j q => zf e j (by unfold fpD at q; omega)) (fun e j q => wf e j (by unfold gpD at q; omega)) (fun i _ => wf 159 i (by omega)) r10⟩, fun e j q => zf e j (by omega), fun e j q => wf e j (by omega)⟩

theorem al_bit {a b c d e' : Int} (ha : I32 a) (hb : I32 b) (hc : I32 c) (hd : I32 d) (he' : I32 e') : ∀ x m, RAll x m → OK (X11_bit a b c d e' x) (fun z => OK (X12_bit a b c d e' m) (fun w => z.1 = w.1 ∧ RAll z.2 w.2 ∧ (∀ e j, 150 ≤ e → z.2 e j = x e j) ∧ ∀ e j, e < 150 → w.2 e j = m e j)) := by
  intro x m ⟨r1, r2, r3, r4, r5, ⟨r6, r7, r8, r9⟩, r10⟩
  refine OK2_mono (bit_b r1 r2 r3 ha hb hc hd he') (fun z w q => ?_)
  obtain ⟨e1, qS, qT, qC, q1, q2, q3⟩ := q
  have zf : ∀ e j : Nat, ¬ ((e = 0 ∧ (j = 14 ∨ j = 15)) ∨ (e = 1 ∧ j = 1) ∨ e = 3 ∨ (12 ≤ e ∧ e ≤ 17) ∨ (e = 66 ∧ j = 16) ∨ e = 85) → z.2 e j = x e j := fun e j q => q1 e j (by omega) (by omega) (by omega) (by omega) (by omega) (by omega)
  have wf : ∀ e j : Nat, ¬ ((e = 150 ∧ (j = 1 ∨ j = 5 ∨ j = 6)) ∨ (160 ≤ e ∧ e ≤ 165)) → w.2 e j = m e j := fun e j q => q2 e j (by omega) (by omega) (by omega)
  have p : RP z.2 w.2 := kpP (fun e j q => zf e j (by unfold fpP at q; omega)) (fun e j q => wf e j (by unfold gpP at q; omega)) r5
  have d : RD z.2 w.2 := by
    obtain ⟨n, P, hn, O⟩ := r10
    rcases q3 with ⟨g1, g2⟩ | ⟨g1, g2, g3⟩
    · exact ⟨n + 1, P, by rw [g2, hn]; rfl, RO_fg ⟨funext fun j => wf 187 j (by omega), funext fun j => wf 188 j (by omega)⟩ (wf 150 75 (by omega)) ⟨zf 66 2 (by omega), funext fun j => zf 67 j (by omega), funext fun j => zf 68 j (by omega)⟩ g1 O⟩
    · have zz : ∀ e, 66 ≤ e → e ≤ 76 → z.2 e = x e := fun e h1 h2 => funext fun j => by
        by_cases k : e = 66 ∧ j = 16
        · rw [k.1, k.2, g1]
        · exact zf e j (by omega)
      exact ⟨n, P, by rw [g2, hn], RO_kp (kpM_of (x := z.2) r1.2 (TX_8 ⟨zf 28 0 (by omega), fun e j h1 h2 => zf e j (by omega)⟩ r5) (p.1 8 (by decide)) r5.2 p.2 hn (fun e i h1 h2 _ => g3 e i h1 h2) (fun i _ => wf 159 i (by omega)) ⟨funext fun j => wf 187 j (by omega), funext fun j => wf 188 j (by omega)⟩) (wf 150 75 (by omega)) zz O⟩
  exact ⟨e1, ⟨qS, qT, qC, kpE (fun e j q => zf e j (by unfold fpE at q; omega)) (fun e j q q' => wf e j (by unfold gpE at q; omega)) (by rw [wf 150 3 (by omega)]; exact Int.le_refl _) r4, p, ⟨kpA (fun e j q => zf e j (by unfold fpA at q; omega)) r6, kpt (fun j => zf 50 j (by omega)) r7, kph (fun j => zf 42 j (by omega)) r8, kpp (fun j => zf 34 j (by omega)) r9⟩, d⟩, fun e j q => zf e j (by omega), fun e j q => wf e j (by omega)⟩

theorem al_way {a v : Int} (ha : I32 a) (hv : I32 v) : ∀ x m, RAll x m → OK (X11_way a v x) (fun z => OK (X12_way a v m) (fun w => z.1 = w.1 ∧ RAll z.2 w.2 ∧ (∀ e j, 150 ≤ e → z.2 e j = x e j) ∧ ∀ e j, e < 150 → w.2 e j = m e j)) := by
  intro x m ⟨r1, r2, r3, r4, r5, ⟨r6, r7, r8, r9⟩, r10⟩
  refine OK2_mono (way_b r1 r2 r5 ha hv) (fun z w q => ?_)
  obtain ⟨e1, -, qT, qP, ⟨T, hT, qz⟩, qw⟩ := q
  have zf : ∀ e j : Nat, ¬ ((e = 1 ∧ j = 1) ∨ (18 ≤ e ∧ e ≤ 24) ∨ (e = (86 + 8 * T) ∧ (j = 0 ∨ j = 1)) ∨ ((86 + 8 * T) + 1 ≤ e ∧ e ≤ (86 + 8 * T) + 5)) → z.2 e j = x e j := fun e j q => qz e j (by omega) (by omega) (by unfold tOf; rw [if_pos hT]; omega) (by unfold tOf; rw [if_pos hT]; omega)
  have wf : ∀ e j : Nat, ¬ ((e = 150 ∧ (j = 1 ∨ (34 ≤ j ∧ j ≤ 42))) ∨ (166 ≤ e ∧ e ≤ 179)) → w.2 e j = m e j := fun e j q => qw e j (by omega) (by omega)
  have p : RP z.2 w.2 := qP
  exact ⟨e1, ⟨kpS (fun e j q => zf e j (by unfold fpS at q; omega)) (fun e j q => wf e j (by unfold gpS at q; omega)) r1, qT, kpC (fun e j q => zf e j (by unfold fpC at q; omega)) (fun e j q => wf e j (by unfold gpC at q; omega)) r3, kpE (fun e j q => zf e j (by unfold fpE at q; omega)) (fun e j q q' => wf e j (by unfold gpE at q; omega)) (by rw [wf 150 3 (by omega)]; exact Int.le_refl _) r4, p, ⟨kpA (fun e j q => zf e j (by unfold fpA at q; omega)) r6, kpt (fun j => zf 50 j (by omega)) r7, kph (fun j => zf 42 j (by omega)) r8, kpp (fun j => zf 34 j (by omega)) r9⟩, kpD r1.2 r5 p ⟨zf 28 0 (by omega), fun e j h1 h2 => zf e j (by omega)⟩ (fun e j q => zf e j (by unfold fpD at q; omega)) (fun e j q => wf e j (by unfold gpD at q; omega)) (fun i _ => wf 159 i (by omega)) r10⟩, fun e j q => zf e j (by omega), fun e j q => wf e j (by omega)⟩

theorem al_plan {v : Int} (hv : I32 v) : ∀ x m, RAll x m → OK (X11_plan v x) (fun z => OK (X12_plan v m) (fun w => z.1 = w.1 ∧ RAll z.2 w.2 ∧ (∀ e j, 150 ≤ e → z.2 e j = x e j) ∧ ∀ e j, e < 150 → w.2 e j = m e j)) := by
  intro x m ⟨r1, r2, r3, r4, r5, ⟨r6, r7, r8, r9⟩, r10⟩
  refine OK2_mono (plan_b r2 r5 hv) (fun z w q => ?_)
  obtain ⟨e1, -, qT, qP, qz, qw⟩ := q
  have g16 : z.2 66 16 = -1 := by rw [qz 66 16 (by omega) (by omega) (by rw [show tOf 8 = 28 from rfl]; omega) (by rw [show tOf 8 = 28 from rfl]; omega), setH_s]
  have zf : ∀ e j : Nat, ¬ ((e = 1 ∧ j = 1) ∨ (18 ≤ e ∧ e ≤ 24) ∨ (e = 28 ∧ (j = 0 ∨ j = 1)) ∨ (28 + 1 ≤ e ∧ e ≤ 28 + 5) ∨ (e = 66 ∧ j = 16)) → z.2 e j = x e j := fun e j q => by rw [qz e j (by omega) (by omega) (by rw [show tOf 8 = 28 from rfl]; omega) (by rw [show tOf 8 = 28 from rfl]; omega), setH_f (by omega)]
  have wf : ∀ e j : Nat, ¬ ((e = 150 ∧ (j = 1 ∨ (34 ≤ j ∧ j ≤ 42))) ∨ (166 ≤ e ∧ e ≤ 179)) → w.2 e j = m e j := fun e j q => qw e j (by omega) (by omega)
  have p : RP z.2 w.2 := qP
  have d : RD z.2 w.2 := by
    obtain ⟨n, P, hn, O⟩ := r10
    exact ⟨n, P, by rw [wf 150 5 (by omega), hn], RO_fg ⟨funext fun j => wf 187 j (by omega), funext fun j => wf 188 j (by omega)⟩ (wf 150 75 (by omega)) ⟨zf 66 2 (by omega), funext fun j => zf 67 j (by omega), funext fun j => zf 68 j (by omega)⟩ g16 O⟩
  exact ⟨e1, ⟨kpS (fun e j q => zf e j (by unfold fpS at q; omega)) (fun e j q => wf e j (by unfold gpS at q; omega)) r1, qT, kpC (fun e j q => zf e j (by unfold fpC at q; omega)) (fun e j q => wf e j (by unfold gpC at q; omega)) r3, kpE (fun e j q => zf e j (by unfold fpE at q; omega)) (fun e j q q' => wf e j (by unfold gpE at q; omega)) (by rw [wf 150 3 (by omega)]; exact Int.le_refl _) r4, p, ⟨kpA (fun e j q => zf e j (by unfold fpA at q; omega)) r6, kpt (fun j => zf 50 j (by omega)) r7, kph (fun j => zf 42 j (by omega)) r8, kpp (fun j => zf 34 j (by omega)) r9⟩, d⟩, fun e j q => zf e j (by omega), fun e j q => wf e j (by omega)⟩

theorem al_habit {v : Int} (hv : I32 v) : ∀ x m, RAll x m → OK (X11_habit v x) (fun z => OK (X12_habit v m) (fun w => z.1 = w.1 ∧ RAll z.2 w.2 ∧ (∀ e j, 150 ≤ e → z.2 e j = x e j) ∧ ∀ e j, e < 150 → w.2 e j = m e j)) := by
  intro x m ⟨r1, r2, r3, r4, r5, ⟨r6, r7, r8, r9⟩, r10⟩
  refine OK2_mono (habit_b r2 r5 hv) (fun z w q => ?_)
  obtain ⟨e1, -, qT, qP, qz, qw⟩ := q
  have zf : ∀ e j : Nat, ¬ ((e = 1 ∧ j = 1) ∨ (18 ≤ e ∧ e ≤ 24) ∨ (e = 36 ∧ (j = 0 ∨ j = 1)) ∨ (36 + 1 ≤ e ∧ e ≤ 36 + 5)) → z.2 e j = x e j := fun e j q => qz e j (by omega) (by omega) (by rw [show tOf 9 = 36 from rfl]; omega) (by rw [show tOf 9 = 36 from rfl]; omega)
  have wf : ∀ e j : Nat, ¬ ((e = 150 ∧ (j = 1 ∨ (34 ≤ j ∧ j ≤ 42))) ∨ (166 ≤ e ∧ e ≤ 179)) → w.2 e j = m e j := fun e j q => qw e j (by omega) (by omega)
  have p : RP z.2 w.2 := qP
  exact ⟨e1, ⟨kpS (fun e j q => zf e j (by unfold fpS at q; omega)) (fun e j q => wf e j (by unfold gpS at q; omega)) r1, qT, kpC (fun e j q => zf e j (by unfold fpC at q; omega)) (fun e j q => wf e j (by unfold gpC at q; omega)) r3, kpE (fun e j q => zf e j (by unfold fpE at q; omega)) (fun e j q q' => wf e j (by unfold gpE at q; omega)) (by rw [wf 150 3 (by omega)]; exact Int.le_refl _) r4, p, ⟨kpA (fun e j q => zf e j (by unfold fpA at q; omega)) r6, kpt (fun j => zf 50 j (by omega)) r7, kph (fun j => zf 42 j (by omega)) r8, kpp (fun j => zf 34 j (by omega)) r9⟩, kpD r1.2 r5 p ⟨zf 28 0 (by omega), fun e j h1 h2 => zf e j (by omega)⟩ (fun e j q => zf e j (by unfold fpD at q; omega)) (fun e j q => wf e j (by unfold gpD at q; omega)) (fun i _ => wf 159 i (by omega)) r10⟩, fun e j q => zf e j (by omega), fun e j q => wf e j (by omega)⟩

theorem al_table {v : Int} (hv : I32 v) : ∀ x m, RAll x m → OK (X11_table v x) (fun z => OK (X12_table v m) (fun w => z.1 = w.1 ∧ RAll z.2 w.2 ∧ (∀ e j, 150 ≤ e → z.2 e j = x e j) ∧ ∀ e j, e < 150 → w.2 e j = m e j)) := by
  intro x m ⟨r1, r2, r3, r4, r5, ⟨r6, r7, r8, r9⟩, r10⟩
  refine OK2_mono (table_b r2 r5 hv) (fun z w q => ?_)
  obtain ⟨e1, -, qT, qP, qz, qw⟩ := q
  have zf : ∀ e j : Nat, ¬ ((e = 1 ∧ j = 1) ∨ (18 ≤ e ∧ e ≤ 24) ∨ (e = 44 ∧ (j = 0 ∨ j = 1)) ∨ (44 + 1 ≤ e ∧ e ≤ 44 + 5)) → z.2 e j = x e j := fun e j q => qz e j (by omega) (by omega) (by rw [show tOf 10 = 44 from rfl]; omega) (by rw [show tOf 10 = 44 from rfl]; omega)
  have wf : ∀ e j : Nat, ¬ ((e = 150 ∧ (j = 1 ∨ (34 ≤ j ∧ j ≤ 42))) ∨ (166 ≤ e ∧ e ≤ 179)) → w.2 e j = m e j := fun e j q => qw e j (by omega) (by omega)
  have p : RP z.2 w.2 := qP
  exact ⟨e1, ⟨kpS (fun e j q => zf e j (by unfold fpS at q; omega)) (fun e j q => wf e j (by unfold gpS at q; omega)) r1, qT, kpC (fun e j q => zf e j (by unfold fpC at q; omega)) (fun e j q => wf e j (by unfold gpC at q; omega)) r3, kpE (fun e j q => zf e j (by unfold fpE at q; omega)) (fun e j q q' => wf e j (by unfold gpE at q; omega)) (by rw [wf 150 3 (by omega)]; exact Int.le_refl _) r4, p, ⟨kpA (fun e j q => zf e j (by unfold fpA at q; omega)) r6, kpt (fun j => zf 50 j (by omega)) r7, kph (fun j => zf 42 j (by omega)) r8, kpp (fun j => zf 34 j (by omega)) r9⟩, kpD r1.2 r5 p ⟨zf 28 0 (by omega), fun e j h1 h2 => zf e j (by omega)⟩ (fun e j q => zf e j (by unfold fpD at q; omega)) (fun e j q => wf e j (by unfold gpD at q; omega)) (fun i _ => wf 159 i (by omega)) r10⟩, fun e j q => zf e j (by omega), fun e j q => wf e j (by omega)⟩

theorem al_quote {a b c d e' : Int} (ha : I32 a) (hb : I32 b) (hc : I32 c) (hd : I32 d) (he' : I32 e') : ∀ x m, RAll x m → OK (X11_quote a b c d e' x) (fun z => OK (X12_quote a b c d e' m) (fun w => z.1 = w.1 ∧ RAll z.2 w.2 ∧ (∀ e j, 150 ≤ e → z.2 e j = x e j) ∧ ∀ e j, e < 150 → w.2 e j = m e j)) := by
  intro x m ⟨r1, r2, r3, r4, r5, ⟨r6, r7, r8, r9⟩, r10⟩
  refine OK2_mono (quote_b r1 r2 r3 r5 r6 ha hb hc hd he') (fun z w q => ?_)
  obtain ⟨e1, -, qS, qT, qC, qP, qA, q1, q2, q3⟩ := q
  have zf : ∀ e j : Nat, ¬ ((e = 0 ∧ (j = 14 ∨ j = 15)) ∨ e = 3 ∨ (12 ≤ e ∧ e ≤ 17) ∨ (e = 66 ∧ j = 16) ∨ (85 ≤ e ∧ e ≤ 149)) → z.2 e j = x e j := fun e j q => q1 e j (by omega) (by omega) (by omega) (by omega) (by omega)
  have wf : ∀ e j : Nat, ¬ ((e = 150 ∧ (j = 5 ∨ j = 6 ∨ (44 ≤ j ∧ j ≤ 57))) ∨ (160 ≤ e ∧ e ≤ 165) ∨ e = 180 ∨ e = 181) → w.2 e j = m e j := fun e j q => q2 e j (by omega) (by omega) (by omega) (by omega) (by omega)
  have p : RP z.2 w.2 := qP
  have d : RD z.2 w.2 := by
    obtain ⟨n, P, hn, O⟩ := r10
    rcases q3 with ⟨g1, g2⟩ | ⟨g1, g2, g3⟩
    · exact ⟨n + 1, P, by rw [g2, hn]; rfl, RO_fg ⟨funext fun j => wf 187 j (by omega), funext fun j => wf 188 j (by omega)⟩ (wf 150 75 (by omega)) ⟨zf 66 2 (by omega), funext fun j => zf 67 j (by omega), funext fun j => zf 68 j (by omega)⟩ g1 O⟩
    · have zz : ∀ e, 66 ≤ e → e ≤ 76 → z.2 e = x e := fun e h1 h2 => funext fun j => by
        by_cases k : e = 66 ∧ j = 16
        · rw [k.1, k.2, g1]
        · exact zf e j (by omega)
      exact ⟨n, P, by rw [g2, hn], RO_kp (kpM_of (x := z.2) r1.2 (TX_8 ⟨zf 28 0 (by omega), fun e j h1 h2 => zf e j (by omega)⟩ r5) (p.1 8 (by decide)) r5.2 p.2 hn (fun e i h1 h2 _ => g3 e i h1 h2) (fun i _ => wf 159 i (by omega)) ⟨funext fun j => wf 187 j (by omega), funext fun j => wf 188 j (by omega)⟩) (wf 150 75 (by omega)) zz O⟩
  exact ⟨e1, ⟨qS, qT, qC, kpE (fun e j q => zf e j (by unfold fpE at q; omega)) (fun e j q q' => wf e j (by unfold gpE at q; omega)) (by rw [wf 150 3 (by omega)]; exact Int.le_refl _) r4, p, ⟨qA, kpt (fun j => zf 50 j (by omega)) r7, kph (fun j => zf 42 j (by omega)) r8, kpp (fun j => zf 34 j (by omega)) r9⟩, d⟩, fun e j q => zf e j (by omega), fun e j q => wf e j (by omega)⟩

theorem al_apart {a b : Int} (ha : I32 a) (hb : I32 b) : ∀ x m, RAll x m → OK (X11_apart a b x) (fun z => OK (X12_apart a b m) (fun w => z.1 = w.1 ∧ RAll z.2 w.2 ∧ (∀ e j, 150 ≤ e → z.2 e j = x e j) ∧ ∀ e j, e < 150 → w.2 e j = m e j)) := by
  intro x m ⟨r1, r2, r3, r4, r5, ⟨r6, r7, r8, r9⟩, r10⟩
  refine OK2_mono (apart_b r1 ha hb) (fun z w q => ?_)
  obtain ⟨e1, zq, wq⟩ := q
  have zf : ∀ e j : Nat, ¬ (e = 54) → z.2 e j = x e j := fun e j q => congrFun (zq e q) j
  have wf : ∀ e j : Nat, ¬ (e = 182) → w.2 e j = m e j := fun e j q => congrFun (wq e q) j
  have p : RP z.2 w.2 := kpP (fun e j q => zf e j (by unfold fpP at q; omega)) (fun e j q => wf e j (by unfold gpP at q; omega)) r5
  exact ⟨e1, ⟨kpS (fun e j q => zf e j (by unfold fpS at q; omega)) (fun e j q => wf e j (by unfold gpS at q; omega)) r1, kpT (fun e j q => zf e j (by unfold fpT at q; omega)) (fun e j q => wf e j (by unfold gpT at q; omega)) r2, kpC (fun e j q => zf e j (by unfold fpC at q; omega)) (fun e j q => wf e j (by unfold gpC at q; omega)) r3, kpE (fun e j q => zf e j (by unfold fpE at q; omega)) (fun e j q q' => wf e j (by unfold gpE at q; omega)) (by rw [wf 150 3 (by omega)]; exact Int.le_refl _) r4, p, ⟨kpA (fun e j q => zf e j (by unfold fpA at q; omega)) r6, kpt (fun j => zf 50 j (by omega)) r7, kph (fun j => zf 42 j (by omega)) r8, kpp (fun j => zf 34 j (by omega)) r9⟩, kpD r1.2 r5 p ⟨zf 28 0 (by omega), fun e j h1 h2 => zf e j (by omega)⟩ (fun e j q => zf e j (by unfold fpD at q; omega)) (fun e j q => wf e j (by unfold gpD at q; omega)) (fun i _ => wf 159 i (by omega)) r10⟩, fun e j q => zf e j (by omega), fun e j q => wf e j (by omega)⟩

theorem al_same {a b : Int} (ha : I32 a) (hb : I32 b) : ∀ x m, RAll x m → OK (X11_same a b x) (fun z => OK (X12_same a b m) (fun w => z.1 = w.1 ∧ RAll z.2 w.2 ∧ (∀ e j, 150 ≤ e → z.2 e j = x e j) ∧ ∀ e j, e < 150 → w.2 e j = m e j)) := by
  intro x m ⟨r1, r2, r3, r4, r5, ⟨r6, r7, r8, r9⟩, r10⟩
  refine OK2_mono (same_b r1 ha hb) (fun z w q => ?_)
  obtain ⟨e1, zq, wq⟩ := q
  have zf : ∀ e j : Nat, ¬ (e = 54) → z.2 e j = x e j := fun e j q => congrFun (zq e q) j
  have wf : ∀ e j : Nat, ¬ (e = 182) → w.2 e j = m e j := fun e j q => congrFun (wq e q) j
  have p : RP z.2 w.2 := kpP (fun e j q => zf e j (by unfold fpP at q; omega)) (fun e j q => wf e j (by unfold gpP at q; omega)) r5
  exact ⟨e1, ⟨kpS (fun e j q => zf e j (by unfold fpS at q; omega)) (fun e j q => wf e j (by unfold gpS at q; omega)) r1, kpT (fun e j q => zf e j (by unfold fpT at q; omega)) (fun e j q => wf e j (by unfold gpT at q; omega)) r2, kpC (fun e j q => zf e j (by unfold fpC at q; omega)) (fun e j q => wf e j (by unfold gpC at q; omega)) r3, kpE (fun e j q => zf e j (by unfold fpE at q; omega)) (fun e j q q' => wf e j (by unfold gpE at q; omega)) (by rw [wf 150 3 (by omega)]; exact Int.le_refl _) r4, p, ⟨kpA (fun e j q => zf e j (by unfold fpA at q; omega)) r6, kpt (fun j => zf 50 j (by omega)) r7, kph (fun j => zf 42 j (by omega)) r8, kpp (fun j => zf 34 j (by omega)) r9⟩, kpD r1.2 r5 p ⟨zf 28 0 (by omega), fun e j h1 h2 => zf e j (by omega)⟩ (fun e j q => zf e j (by unfold fpD at q; omega)) (fun e j q => wf e j (by unfold gpD at q; omega)) (fun i _ => wf 159 i (by omega)) r10⟩, fun e j q => zf e j (by omega), fun e j q => wf e j (by omega)⟩

theorem al_near {a k t : Int} (ha : I32 a) (hk : I32 k) (ht : I32 t) : ∀ x m, RAll x m → OK (X11_near a k t x) (fun z => OK (X12_near a k t m) (fun w => z.1 = w.1 ∧ RAll z.2 w.2 ∧ (∀ e j, 150 ≤ e → z.2 e j = x e j) ∧ ∀ e j, e < 150 → w.2 e j = m e j)) := by
  intro x m ⟨r1, r2, r3, r4, r5, ⟨r6, r7, r8, r9⟩, r10⟩
  refine OK2_mono (near_b r1 r3 ha hk ht) (fun z w q => ?_)
  obtain ⟨e1, qC, zq, wq⟩ := q
  have zf : ∀ e j : Nat, ¬ (e = 54 ∨ (55 ≤ e ∧ e ≤ 58)) → z.2 e j = x e j := fun e j q => congrFun (zq e (by omega) (by omega)) j
  have wf : ∀ e j : Nat, ¬ (e = 182 ∨ (e = 150 ∧ 61 ≤ j ∧ j ≤ 63)) → w.2 e j = m e j := fun e j q => wq e j (by omega) (by omega)
  have p : RP z.2 w.2 := kpP (fun e j q => zf e j (by unfold fpP at q; omega)) (fun e j q => wf e j (by unfold gpP at q; omega)) r5
  exact ⟨e1, ⟨kpS (fun e j q => zf e j (by unfold fpS at q; omega)) (fun e j q => wf e j (by unfold gpS at q; omega)) r1, kpT (fun e j q => zf e j (by unfold fpT at q; omega)) (fun e j q => wf e j (by unfold gpT at q; omega)) r2, kpC (fun _ _ _ => rfl) (fun e j q => wf e j (by unfold gpC at q; omega)) qC, kpE (fun e j q => zf e j (by unfold fpE at q; omega)) (fun e j q q' => wf e j (by unfold gpE at q; omega)) (by rw [wf 150 3 (by omega)]; exact Int.le_refl _) r4, p, ⟨kpA (fun e j q => zf e j (by unfold fpA at q; omega)) r6, kpt (fun j => zf 50 j (by omega)) r7, kph (fun j => zf 42 j (by omega)) r8, kpp (fun j => zf 34 j (by omega)) r9⟩, kpD r1.2 r5 p ⟨zf 28 0 (by omega), fun e j h1 h2 => zf e j (by omega)⟩ (fun e j q => zf e j (by unfold fpD at q; omega)) (fun e j q => wf e j (by unfold gpD at q; omega)) (fun i _ => wf 159 i (by omega)) r10⟩, fun e j q => zf e j (by omega), fun e j q => wf e j (by omega)⟩

theorem al_nearness {a b : Int} (ha : I32 a) (hb : I32 b) : ∀ x m, RAll x m → OK (X11_nearness a b x) (fun z => OK (X12_nearness a b m) (fun w => z.1 = w.1 ∧ RAll z.2 w.2 ∧ (∀ e j, 150 ≤ e → z.2 e j = x e j) ∧ ∀ e j, e < 150 → w.2 e j = m e j)) := by
  intro x m ⟨r1, r2, r3, r4, r5, ⟨r6, r7, r8, r9⟩, r10⟩
  refine OK2_mono (nearness_b r1 r3 ha hb) (fun z w q => ?_)
  obtain ⟨e1, qC, zq, wq⟩ := q
  have zf : ∀ e j : Nat, ¬ (e = 54 ∨ (55 ≤ e ∧ e ≤ 58)) → z.2 e j = x e j := fun e j q => congrFun (zq e (by omega) (by omega)) j
  have wf : ∀ e j : Nat, ¬ (e = 182 ∨ (e = 150 ∧ 61 ≤ j ∧ j ≤ 63)) → w.2 e j = m e j := fun e j q => wq e j (by omega) (by omega)
  have p : RP z.2 w.2 := kpP (fun e j q => zf e j (by unfold fpP at q; omega)) (fun e j q => wf e j (by unfold gpP at q; omega)) r5
  exact ⟨e1, ⟨kpS (fun e j q => zf e j (by unfold fpS at q; omega)) (fun e j q => wf e j (by unfold gpS at q; omega)) r1, kpT (fun e j q => zf e j (by unfold fpT at q; omega)) (fun e j q => wf e j (by unfold gpT at q; omega)) r2, kpC (fun _ _ _ => rfl) (fun e j q => wf e j (by unfold gpC at q; omega)) qC, kpE (fun e j q => zf e j (by unfold fpE at q; omega)) (fun e j q q' => wf e j (by unfold gpE at q; omega)) (by rw [wf 150 3 (by omega)]; exact Int.le_refl _) r4, p, ⟨kpA (fun e j q => zf e j (by unfold fpA at q; omega)) r6, kpt (fun j => zf 50 j (by omega)) r7, kph (fun j => zf 42 j (by omega)) r8, kpp (fun j => zf 34 j (by omega)) r9⟩, kpD r1.2 r5 p ⟨zf 28 0 (by omega), fun e j h1 h2 => zf e j (by omega)⟩ (fun e j q => zf e j (by unfold fpD at q; omega)) (fun e j q => wf e j (by unfold gpD at q; omega)) (fun i _ => wf 159 i (by omega)) r10⟩, fun e j q => zf e j (by omega), fun e j q => wf e j (by omega)⟩

theorem al_stood {a b c : Int} (ha : I32 a) (hb : I32 b) (hc : I32 c) : ∀ x m, RAll x m → OK (X11_stood a b c x) (fun z => OK (X12_stood a b c m) (fun w => z.1 = w.1 ∧ RAll z.2 w.2 ∧ (∀ e j, 150 ≤ e → z.2 e j = x e j) ∧ ∀ e j, e < 150 → w.2 e j = m e j)) := by
  intro x m ⟨r1, r2, r3, r4, r5, ⟨r6, r7, r8, r9⟩, r10⟩
  refine OK2_mono (stood_b r1 ha hb hc) (fun z w q => ?_)
  obtain ⟨e1, zq, wq⟩ := q
  have zf : ∀ e j : Nat, ¬ (e = 59 ∨ e = 60) → z.2 e j = x e j := fun e j q => congrFun (zq e (by omega) (by omega)) j
  have wf : ∀ e j : Nat, ¬ (e = 183 ∨ e = 184) → w.2 e j = m e j := fun e j q => congrFun (wq e (by omega) (by omega)) j
  have p : RP z.2 w.2 := kpP (fun e j q => zf e j (by unfold fpP at q; omega)) (fun e j q => wf e j (by unfold gpP at q; omega)) r5
  exact ⟨e1, ⟨kpS (fun e j q => zf e j (by unfold fpS at q; omega)) (fun e j q => wf e j (by unfold gpS at q; omega)) r1, kpT (fun e j q => zf e j (by unfold fpT at q; omega)) (fun e j q => wf e j (by unfold gpT at q; omega)) r2, kpC (fun e j q => zf e j (by unfold fpC at q; omega)) (fun e j q => wf e j (by unfold gpC at q; omega)) r3, kpE (fun e j q => zf e j (by unfold fpE at q; omega)) (fun e j q q' => wf e j (by unfold gpE at q; omega)) (by rw [wf 150 3 (by omega)]; exact Int.le_refl _) r4, p, ⟨kpA (fun e j q => zf e j (by unfold fpA at q; omega)) r6, kpt (fun j => zf 50 j (by omega)) r7, kph (fun j => zf 42 j (by omega)) r8, kpp (fun j => zf 34 j (by omega)) r9⟩, kpD r1.2 r5 p ⟨zf 28 0 (by omega), fun e j h1 h2 => zf e j (by omega)⟩ (fun e j q => zf e j (by unfold fpD at q; omega)) (fun e j q => wf e j (by unfold gpD at q; omega)) (fun i _ => wf 159 i (by omega)) r10⟩, fun e j q => zf e j (by omega), fun e j q => wf e j (by omega)⟩

theorem al_slips {a b c : Int} (ha : I32 a) (hb : I32 b) (hc : I32 c) : ∀ x m, RAll x m → OK (X11_slips a b c x) (fun z => OK (X12_slips a b c m) (fun w => z.1 = w.1 ∧ RAll z.2 w.2 ∧ (∀ e j, 150 ≤ e → z.2 e j = x e j) ∧ ∀ e j, e < 150 → w.2 e j = m e j)) := by
  intro x m ⟨r1, r2, r3, r4, r5, ⟨r6, r7, r8, r9⟩, r10⟩
  refine OK2_mono (slips_b r1 r3 ha hb hc) (fun z w q => ?_)
  obtain ⟨e1, qC, zq, wq⟩ := q
  have zf : ∀ e j : Nat, ¬ ((54 ≤ e ∧ e ≤ 58) ∨ (e = 62 ∧ (j = 3 ∨ j = 4)) ∨ e = 63) → z.2 e j = x e j := fun e j q => zq e j (by unfold cXG; omega)
  have wf : ∀ e j : Nat, ¬ (e = 182 ∨ e = 185 ∨ (e = 150 ∧ 61 ≤ j ∧ j ≤ 63)) → w.2 e j = m e j := fun e j q => wq e j (by unfold cMY; omega)
  have p : RP z.2 w.2 := kpP (fun e j q => zf e j (by unfold fpP at q; omega)) (fun e j q => wf e j (by unfold gpP at q; omega)) r5
  exact ⟨e1, ⟨kpS (fun e j q => zf e j (by unfold fpS at q; omega)) (fun e j q => wf e j (by unfold gpS at q; omega)) r1, kpT (fun e j q => zf e j (by unfold fpT at q; omega)) (fun e j q => wf e j (by unfold gpT at q; omega)) r2, kpC (fun _ _ _ => rfl) (fun e j q => wf e j (by unfold gpC at q; omega)) qC, kpE (fun e j q => zf e j (by unfold fpE at q; omega)) (fun e j q q' => wf e j (by unfold gpE at q; omega)) (by rw [wf 150 3 (by omega)]; exact Int.le_refl _) r4, p, ⟨kpA (fun e j q => zf e j (by unfold fpA at q; omega)) r6, kpt (fun j => zf 50 j (by omega)) r7, kph (fun j => zf 42 j (by omega)) r8, kpp (fun j => zf 34 j (by omega)) r9⟩, kpD r1.2 r5 p ⟨zf 28 0 (by omega), fun e j h1 h2 => zf e j (by omega)⟩ (fun e j q => zf e j (by unfold fpD at q; omega)) (fun e j q => wf e j (by unfold gpD at q; omega)) (fun i _ => wf 159 i (by omega)) r10⟩, fun e j q => zf e j (by omega), fun e j q => wf e j (by omega)⟩

theorem al_slip {a b c : Int} (ha : I32 a) (hb : I32 b) (hc : I32 c) : ∀ x m, RAll x m → OK (X11_slip a b c x) (fun z => OK (X12_slip a b c m) (fun w => z.1 = w.1 ∧ RAll z.2 w.2 ∧ (∀ e j, 150 ≤ e → z.2 e j = x e j) ∧ ∀ e j, e < 150 → w.2 e j = m e j)) := by
  intro x m ⟨r1, r2, r3, r4, r5, ⟨r6, r7, r8, r9⟩, r10⟩
  refine OK2_mono (slip_b r1 r3 ha hb hc) (fun z w q => ?_)
  obtain ⟨e1, qC, zq, wq⟩ := q
  have zf : ∀ e j : Nat, ¬ ((54 ≤ e ∧ e ≤ 58) ∨ (e = 62 ∧ (j = 3 ∨ j = 4)) ∨ e = 63) → z.2 e j = x e j := fun e j q => zq e j (by unfold cXG; omega)
  have wf : ∀ e j : Nat, ¬ (e = 182 ∨ e = 185 ∨ (e = 150 ∧ 61 ≤ j ∧ j ≤ 63)) → w.2 e j = m e j := fun e j q => wq e j (by unfold cMY; omega)
  have p : RP z.2 w.2 := kpP (fun e j q => zf e j (by unfold fpP at q; omega)) (fun e j q => wf e j (by unfold gpP at q; omega)) r5
  exact ⟨e1, ⟨kpS (fun e j q => zf e j (by unfold fpS at q; omega)) (fun e j q => wf e j (by unfold gpS at q; omega)) r1, kpT (fun e j q => zf e j (by unfold fpT at q; omega)) (fun e j q => wf e j (by unfold gpT at q; omega)) r2, kpC (fun _ _ _ => rfl) (fun e j q => wf e j (by unfold gpC at q; omega)) qC, kpE (fun e j q => zf e j (by unfold fpE at q; omega)) (fun e j q q' => wf e j (by unfold gpE at q; omega)) (by rw [wf 150 3 (by omega)]; exact Int.le_refl _) r4, p, ⟨kpA (fun e j q => zf e j (by unfold fpA at q; omega)) r6, kpt (fun j => zf 50 j (by omega)) r7, kph (fun j => zf 42 j (by omega)) r8, kpp (fun j => zf 34 j (by omega)) r9⟩, kpD r1.2 r5 p ⟨zf 28 0 (by omega), fun e j h1 h2 => zf e j (by omega)⟩ (fun e j q => zf e j (by unfold fpD at q; omega)) (fun e j q => wf e j (by unfold gpD at q; omega)) (fun i _ => wf 159 i (by omega)) r10⟩, fun e j q => zf e j (by omega), fun e j q => wf e j (by omega)⟩

theorem al_shared {a b k c : Int} (ha : I32 a) (hb : I32 b) (hk : I32 k) (hc : I32 c) : ∀ x m, RAll x m → OK (X11_shared a b k c x) (fun z => OK (X12_shared a b k c m) (fun w => z.1 = w.1 ∧ RAll z.2 w.2 ∧ (∀ e j, 150 ≤ e → z.2 e j = x e j) ∧ ∀ e j, e < 150 → w.2 e j = m e j)) := by
  intro x m ⟨r1, r2, r3, r4, r5, ⟨r6, r7, r8, r9⟩, r10⟩
  refine OK2_mono (shared_b r1 r3 ha hb hk hc) (fun z w q => ?_)
  obtain ⟨e1, qC, zq, wq⟩ := q
  have zf : ∀ e j : Nat, ¬ ((54 ≤ e ∧ e ≤ 58) ∨ (61 ≤ e ∧ e ≤ 65) ∨ e = 52) → z.2 e j = x e j := fun e j q => zq e j (by unfold cXK; omega)
  have wf : ∀ e j : Nat, ¬ (e = 182 ∨ e = 185 ∨ (e = 150 ∧ 61 ≤ j ∧ j ≤ 63) ∨ (e = 150 ∧ 67 ≤ j ∧ j ≤ 72)) → w.2 e j = m e j := fun e j q => wq e j (by unfold cMY; omega) (by unfold cMH; omega)
  have p : RP z.2 w.2 := kpP (fun e j q => zf e j (by unfold fpP at q; omega)) (fun e j q => wf e j (by unfold gpP at q; omega)) r5
  exact ⟨e1, ⟨kpS (fun e j q => zf e j (by unfold fpS at q; omega)) (fun e j q => wf e j (by unfold gpS at q; omega)) r1, kpT (fun e j q => zf e j (by unfold fpT at q; omega)) (fun e j q => wf e j (by unfold gpT at q; omega)) r2, kpC (fun _ _ _ => rfl) (fun e j q => wf e j (by unfold gpC at q; omega)) qC, kpE (fun e j q => zf e j (by unfold fpE at q; omega)) (fun e j q q' => wf e j (by unfold gpE at q; omega)) (by rw [wf 150 3 (by omega)]; exact Int.le_refl _) r4, p, ⟨kpA (fun e j q => zf e j (by unfold fpA at q; omega)) r6, kpt (fun j => zf 50 j (by omega)) r7, kph (fun j => zf 42 j (by omega)) r8, kpp (fun j => zf 34 j (by omega)) r9⟩, kpD r1.2 r5 p ⟨zf 28 0 (by omega), fun e j h1 h2 => zf e j (by omega)⟩ (fun e j q => zf e j (by unfold fpD at q; omega)) (fun e j q => wf e j (by unfold gpD at q; omega)) (fun i _ => wf 159 i (by omega)) r10⟩, fun e j q => zf e j (by omega), fun e j q => wf e j (by omega)⟩

theorem al_groups {a t : Int} (ha : I32 a) (ht : I32 t) : ∀ x m, RAll x m → OK (X11_groups a t x) (fun z => OK (X12_groups a t m) (fun w => z.1 = w.1 ∧ RAll z.2 w.2 ∧ (∀ e j, 150 ≤ e → z.2 e j = x e j) ∧ ∀ e j, e < 150 → w.2 e j = m e j)) := by
  intro x m ⟨r1, r2, r3, r4, r5, ⟨r6, r7, r8, r9⟩, r10⟩
  refine OK2_mono (groups_b r1 r3 ha ht) (fun z w q => ?_)
  obtain ⟨e1, qC, zq, wq⟩ := q
  have zf : ∀ e j : Nat, ¬ ((54 ≤ e ∧ e ≤ 58) ∨ (61 ≤ e ∧ e ≤ 65) ∨ e = 52) → z.2 e j = x e j := fun e j q => zq e j (by unfold cXK; omega)
  have wf : ∀ e j : Nat, ¬ (e = 182 ∨ e = 185 ∨ (e = 150 ∧ 61 ≤ j ∧ j ≤ 63) ∨ (e = 150 ∧ 67 ≤ j ∧ j ≤ 72) ∨ e = 186) → w.2 e j = m e j := fun e j q => wq e j (by unfold cMG cMY cMH; omega)
  have p : RP z.2 w.2 := kpP (fun e j q => zf e j (by unfold fpP at q; omega)) (fun e j q => wf e j (by unfold gpP at q; omega)) r5
  exact ⟨e1, ⟨kpS (fun e j q => zf e j (by unfold fpS at q; omega)) (fun e j q => wf e j (by unfold gpS at q; omega)) r1, kpT (fun e j q => zf e j (by unfold fpT at q; omega)) (fun e j q => wf e j (by unfold gpT at q; omega)) r2, kpC (fun _ _ _ => rfl) (fun e j q => wf e j (by unfold gpC at q; omega)) qC, kpE (fun e j q => zf e j (by unfold fpE at q; omega)) (fun e j q q' => wf e j (by unfold gpE at q; omega)) (by rw [wf 150 3 (by omega)]; exact Int.le_refl _) r4, p, ⟨kpA (fun e j q => zf e j (by unfold fpA at q; omega)) r6, kpt (fun j => zf 50 j (by omega)) r7, kph (fun j => zf 42 j (by omega)) r8, kpp (fun j => zf 34 j (by omega)) r9⟩, kpD r1.2 r5 p ⟨zf 28 0 (by omega), fun e j h1 h2 => zf e j (by omega)⟩ (fun e j q => zf e j (by unfold fpD at q; omega)) (fun e j q => wf e j (by unfold gpD at q; omega)) (fun i _ => wf 159 i (by omega)) r10⟩, fun e j q => zf e j (by omega), fun e j q => wf e j (by omega)⟩

theorem al_from {a k c : Int} (ha : I32 a) (hk : I32 k) (hc : I32 c) : ∀ x m, RAll x m → OK (X11_from a k c x) (fun z => OK (X12_from a k c m) (fun w => z.1 = w.1 ∧ RAll z.2 w.2 ∧ (∀ e j, 150 ≤ e → z.2 e j = x e j) ∧ ∀ e j, e < 150 → w.2 e j = m e j)) := by
  intro x m ⟨r1, r2, r3, r4, r5, ⟨r6, r7, r8, r9⟩, r10⟩
  refine OK2_mono (from_b r1 r3 ha hk hc) (fun z w q => ?_)
  obtain ⟨e1, qC, zq, wq⟩ := q
  have zf : ∀ e j : Nat, ¬ ((54 ≤ e ∧ e ≤ 58) ∨ (61 ≤ e ∧ e ≤ 65) ∨ e = 52) → z.2 e j = x e j := fun e j q => zq e j (by unfold cXK; omega)
  have wf : ∀ e j : Nat, ¬ (e = 182 ∨ e = 185 ∨ (e = 150 ∧ 61 ≤ j ∧ j ≤ 63) ∨ (e = 150 ∧ j = 74)) → w.2 e j = m e j := fun e j q => wq e j (by unfold cMF cMY; omega)
  have p : RP z.2 w.2 := kpP (fun e j q => zf e j (by unfold fpP at q; omega)) (fun e j q => wf e j (by unfold gpP at q; omega)) r5
  exact ⟨e1, ⟨kpS (fun e j q => zf e j (by unfold fpS at q; omega)) (fun e j q => wf e j (by unfold gpS at q; omega)) r1, kpT (fun e j q => zf e j (by unfold fpT at q; omega)) (fun e j q => wf e j (by unfold gpT at q; omega)) r2, kpC (fun _ _ _ => rfl) (fun e j q => wf e j (by unfold gpC at q; omega)) qC, kpE (fun e j q => zf e j (by unfold fpE at q; omega)) (fun e j q q' => wf e j (by unfold gpE at q; omega)) (by rw [wf 150 3 (by omega)]; exact Int.le_refl _) r4, p, ⟨kpA (fun e j q => zf e j (by unfold fpA at q; omega)) r6, kpt (fun j => zf 50 j (by omega)) r7, kph (fun j => zf 42 j (by omega)) r8, kpp (fun j => zf 34 j (by omega)) r9⟩, kpD r1.2 r5 p ⟨zf 28 0 (by omega), fun e j h1 h2 => zf e j (by omega)⟩ (fun e j q => zf e j (by unfold fpD at q; omega)) (fun e j q => wf e j (by unfold gpD at q; omega)) (fun i _ => wf 159 i (by omega)) r10⟩, fun e j q => zf e j (by omega), fun e j q => wf e j (by omega)⟩

theorem al_there {k : Int} (hk : I32 k) : ∀ x m, RAll x m → OK (X11_there k x) (fun z => OK (X12_there k m) (fun w => z.1 = w.1 ∧ RAll z.2 w.2 ∧ (∀ e j, 150 ≤ e → z.2 e j = x e j) ∧ ∀ e j, e < 150 → w.2 e j = m e j)) := by
  intro x m ⟨r1, r2, r3, r4, r5, ⟨r6, r7, r8, r9⟩, r10⟩
  refine OK2_mono (there_b r1 r3 hk) (fun z w q => ?_)
  obtain ⟨e1, qC, zq, wq⟩ := q
  have zf : ∀ e j : Nat, ¬ ((54 ≤ e ∧ e ≤ 58) ∨ (61 ≤ e ∧ e ≤ 65) ∨ e = 52) → z.2 e j = x e j := fun e j q => zq e j (by unfold cXK; omega)
  have wf : ∀ e j : Nat, ¬ (e = 182 ∨ e = 185 ∨ (e = 150 ∧ 61 ≤ j ∧ j ≤ 63) ∨ (e = 150 ∧ j = 74)) → w.2 e j = m e j := fun e j q => wq e j (by unfold cMF cMY; omega)
  have p : RP z.2 w.2 := kpP (fun e j q => zf e j (by unfold fpP at q; omega)) (fun e j q => wf e j (by unfold gpP at q; omega)) r5
  exact ⟨e1, ⟨kpS (fun e j q => zf e j (by unfold fpS at q; omega)) (fun e j q => wf e j (by unfold gpS at q; omega)) r1, kpT (fun e j q => zf e j (by unfold fpT at q; omega)) (fun e j q => wf e j (by unfold gpT at q; omega)) r2, kpC (fun _ _ _ => rfl) (fun e j q => wf e j (by unfold gpC at q; omega)) qC, kpE (fun e j q => zf e j (by unfold fpE at q; omega)) (fun e j q q' => wf e j (by unfold gpE at q; omega)) (by rw [wf 150 3 (by omega)]; exact Int.le_refl _) r4, p, ⟨kpA (fun e j q => zf e j (by unfold fpA at q; omega)) r6, kpt (fun j => zf 50 j (by omega)) r7, kph (fun j => zf 42 j (by omega)) r8, kpp (fun j => zf 34 j (by omega)) r9⟩, kpD r1.2 r5 p ⟨zf 28 0 (by omega), fun e j h1 h2 => zf e j (by omega)⟩ (fun e j q => zf e j (by unfold fpD at q; omega)) (fun e j q => wf e j (by unfold gpD at q; omega)) (fun i _ => wf 159 i (by omega)) r10⟩, fun e j q => zf e j (by omega), fun e j q => wf e j (by omega)⟩

theorem al_order {k c : Int} (hk : I32 k) (hc : I32 c) : ∀ x m, RAll x m → OK (X11_order k c x) (fun z => OK (X12_order k c m) (fun w => z.1 = w.1 ∧ RAll z.2 w.2 ∧ (∀ e j, 150 ≤ e → z.2 e j = x e j) ∧ ∀ e j, e < 150 → w.2 e j = m e j)) := by
  intro x m ⟨r1, r2, r3, r4, r5, ⟨r6, r7, r8, r9⟩, r10⟩
  obtain ⟨n, P, hn, O⟩ := id r10
  refine OK2_mono (order_b r1 (r5.1 8 (by decide)) r5.2 r9 O hn hk hc) (fun z w q => ?_)
  obtain ⟨e1, qO, qp, zq, wq⟩ := q
  have zf : ∀ e j : Nat, ¬ (e = 34 ∨ e = 35 ∨ (e = 28 ∧ (j = 9 ∨ j = 10)) ∨ (66 ≤ e ∧ e ≤ 76 ∧ ¬ (e = 66 ∧ j = 2) ∧ e ≠ 67 ∧ e ≠ 68)) → z.2 e j = x e j := fun e j q => zq e j (by unfold cXP; omega)
  have wf : ∀ e j : Nat, ¬ ((e = 150 ∧ (j = 78 ∨ j = 84 ∨ j = 85 ∨ (44 ≤ j ∧ j ≤ 57))) ∨ e = 180 ∨ e = 181 ∨ (189 ≤ e ∧ e ≤ 193)) → w.2 e j = m e j := fun e j q => wq e j (by unfold cMO; omega)
  have p : RP z.2 w.2 := kpP (fun e j q => zf e j (by unfold fpP at q; omega)) (fun e j q => wf e j (by unfold gpP at q; omega)) r5
  have d : RD z.2 w.2 := ⟨n, P, by rw [wf 150 5 (by omega), hn], RO_kp (kpM_of (x := x) r1.2 (r5.1 8 (by decide)) (TX_cg (x := z.2) (m := w.2) (t := 28) (zf 28 0 (by omega)).symm (fun i h1 h2 => funext fun j => (zf _ j (by omega)).symm) (fun _ _ _ => rfl) (p.1 8 (by decide))) r5.2 p.2 hn (fun e i h1 h2 _ => wf e i (by omega)) (fun i _ => wf 159 i (by omega)) ⟨funext fun j => wf 187 j (by omega), funext fun j => wf 188 j (by omega)⟩) (wf 150 75 (by omega)) (fun _ _ _ => rfl) qO⟩
  exact ⟨e1, ⟨kpS (fun e j q => zf e j (by unfold fpS at q; omega)) (fun e j q => wf e j (by unfold gpS at q; omega)) r1, kpT (fun e j q => zf e j (by unfold fpT at q; omega)) (fun e j q => wf e j (by unfold gpT at q; omega)) r2, kpC (fun e j q => zf e j (by unfold fpC at q; omega)) (fun e j q => wf e j (by unfold gpC at q; omega)) r3, kpE (fun e j q => zf e j (by unfold fpE at q; omega)) (fun e j q q' => wf e j (by unfold gpE at q; omega)) (by rw [wf 150 3 (by omega)]; exact Int.le_refl _) r4, p, ⟨kpA (fun e j q => zf e j (by unfold fpA at q; omega)) r6, kpt (fun j => zf 50 j (by omega)) r7, kph (fun j => zf 42 j (by omega)) r8, qp⟩, d⟩, fun e j q => zf e j (by omega), fun e j q => wf e j (by omega)⟩

theorem al_orders {k : Int} (hk : I32 k) : ∀ x m, RAll x m → OK (X11_orders k x) (fun z => OK (X12_orders k m) (fun w => z.1 = w.1 ∧ RAll z.2 w.2 ∧ (∀ e j, 150 ≤ e → z.2 e j = x e j) ∧ ∀ e j, e < 150 → w.2 e j = m e j)) := by
  intro x m ⟨r1, r2, r3, r4, r5, ⟨r6, r7, r8, r9⟩, r10⟩
  obtain ⟨n, P, hn, O⟩ := id r10
  refine OK2_mono (orders_b r1 (r5.1 8 (by decide)) r5.2 r9 O hn hk) (fun z w q => ?_)
  obtain ⟨e1, qO, qp, zq, wq⟩ := q
  have zf : ∀ e j : Nat, ¬ (e = 34 ∨ e = 35 ∨ (e = 28 ∧ (j = 9 ∨ j = 10)) ∨ (66 ≤ e ∧ e ≤ 76 ∧ ¬ (e = 66 ∧ j = 2) ∧ e ≠ 67 ∧ e ≠ 68)) → z.2 e j = x e j := fun e j q => zq e j (by unfold cXP; omega)
  have wf : ∀ e j : Nat, ¬ ((e = 150 ∧ (j = 78 ∨ j = 84 ∨ j = 85 ∨ (44 ≤ j ∧ j ≤ 57))) ∨ e = 180 ∨ e = 181 ∨ (189 ≤ e ∧ e ≤ 193)) → w.2 e j = m e j := fun e j q => wq e j (by unfold cMO; omega)
  have p : RP z.2 w.2 := kpP (fun e j q => zf e j (by unfold fpP at q; omega)) (fun e j q => wf e j (by unfold gpP at q; omega)) r5
  have d : RD z.2 w.2 := ⟨n, P, by rw [wf 150 5 (by omega), hn], RO_kp (kpM_of (x := x) r1.2 (r5.1 8 (by decide)) (TX_cg (x := z.2) (m := w.2) (t := 28) (zf 28 0 (by omega)).symm (fun i h1 h2 => funext fun j => (zf _ j (by omega)).symm) (fun _ _ _ => rfl) (p.1 8 (by decide))) r5.2 p.2 hn (fun e i h1 h2 _ => wf e i (by omega)) (fun i _ => wf 159 i (by omega)) ⟨funext fun j => wf 187 j (by omega), funext fun j => wf 188 j (by omega)⟩) (wf 150 75 (by omega)) (fun _ _ _ => rfl) qO⟩
  exact ⟨e1, ⟨kpS (fun e j q => zf e j (by unfold fpS at q; omega)) (fun e j q => wf e j (by unfold gpS at q; omega)) r1, kpT (fun e j q => zf e j (by unfold fpT at q; omega)) (fun e j q => wf e j (by unfold gpT at q; omega)) r2, kpC (fun e j q => zf e j (by unfold fpC at q; omega)) (fun e j q => wf e j (by unfold gpC at q; omega)) r3, kpE (fun e j q => zf e j (by unfold fpE at q; omega)) (fun e j q q' => wf e j (by unfold gpE at q; omega)) (by rw [wf 150 3 (by omega)]; exact Int.le_refl _) r4, p, ⟨kpA (fun e j q => zf e j (by unfold fpA at q; omega)) r6, kpt (fun j => zf 50 j (by omega)) r7, kph (fun j => zf 42 j (by omega)) r8, qp⟩, d⟩, fun e j q => zf e j (by omega), fun e j q => wf e j (by omega)⟩

theorem al_sure {a b : Int} (ha : I32 a) (hb : I32 b) : ∀ x m, RAll x m → OK (X11_sure a b x) (fun z => OK (X12_sure a b m) (fun w => z.1 = w.1 ∧ RAll z.2 w.2 ∧ (∀ e j, 150 ≤ e → z.2 e j = x e j) ∧ ∀ e j, e < 150 → w.2 e j = m e j)) := by
  intro x m ⟨r1, r2, r3, r4, r5, ⟨r6, r7, r8, r9⟩, r10⟩
  obtain ⟨n, P, hn, O⟩ := id r10
  refine OK2_mono (sure_b r1 (r5.1 8 (by decide)) r5.2 r9 O hn ha hb) (fun z w q => ?_)
  obtain ⟨e1, qO, qp, zq, wq⟩ := q
  have zf : ∀ e j : Nat, ¬ (e = 34 ∨ e = 35 ∨ (e = 28 ∧ (j = 9 ∨ j = 10)) ∨ (66 ≤ e ∧ e ≤ 76 ∧ ¬ (e = 66 ∧ j = 2) ∧ e ≠ 67 ∧ e ≠ 68)) → z.2 e j = x e j := fun e j q => zq e j (by unfold cXP; omega)
  have wf : ∀ e j : Nat, ¬ ((e = 150 ∧ (j = 78 ∨ j = 84 ∨ j = 85 ∨ (44 ≤ j ∧ j ≤ 57))) ∨ e = 180 ∨ e = 181 ∨ (189 ≤ e ∧ e ≤ 193)) → w.2 e j = m e j := fun e j q => wq e j (by unfold cMO; omega)
  have p : RP z.2 w.2 := kpP (fun e j q => zf e j (by unfold fpP at q; omega)) (fun e j q => wf e j (by unfold gpP at q; omega)) r5
  have d : RD z.2 w.2 := ⟨n, P, by rw [wf 150 5 (by omega), hn], RO_kp (kpM_of (x := x) r1.2 (r5.1 8 (by decide)) (TX_cg (x := z.2) (m := w.2) (t := 28) (zf 28 0 (by omega)).symm (fun i h1 h2 => funext fun j => (zf _ j (by omega)).symm) (fun _ _ _ => rfl) (p.1 8 (by decide))) r5.2 p.2 hn (fun e i h1 h2 _ => wf e i (by omega)) (fun i _ => wf 159 i (by omega)) ⟨funext fun j => wf 187 j (by omega), funext fun j => wf 188 j (by omega)⟩) (wf 150 75 (by omega)) (fun _ _ _ => rfl) qO⟩
  exact ⟨e1, ⟨kpS (fun e j q => zf e j (by unfold fpS at q; omega)) (fun e j q => wf e j (by unfold gpS at q; omega)) r1, kpT (fun e j q => zf e j (by unfold fpT at q; omega)) (fun e j q => wf e j (by unfold gpT at q; omega)) r2, kpC (fun e j q => zf e j (by unfold fpC at q; omega)) (fun e j q => wf e j (by unfold gpC at q; omega)) r3, kpE (fun e j q => zf e j (by unfold fpE at q; omega)) (fun e j q q' => wf e j (by unfold gpE at q; omega)) (by rw [wf 150 3 (by omega)]; exact Int.le_refl _) r4, p, ⟨kpA (fun e j q => zf e j (by unfold fpA at q; omega)) r6, kpt (fun j => zf 50 j (by omega)) r7, kph (fun j => zf 42 j (by omega)) r8, qp⟩, d⟩, fun e j q => zf e j (by omega), fun e j q => wf e j (by omega)⟩

theorem al_moves {a : Int} (ha : I32 a) : ∀ x m, RAll x m → OK (X11_moves a x) (fun z => OK (X12_moves a m) (fun w => z.1 = w.1 ∧ RAll z.2 w.2 ∧ (∀ e j, 150 ≤ e → z.2 e j = x e j) ∧ ∀ e j, e < 150 → w.2 e j = m e j)) := by
  intro x m ⟨r1, r2, r3, r4, r5, ⟨r6, r7, r8, r9⟩, r10⟩
  obtain ⟨n, P, hn, O⟩ := id r10
  refine OK2_mono (moves_b r1 (r5.1 8 (by decide)) r5.2 r9 O hn ha) (fun z w q => ?_)
  obtain ⟨e1, qO, qp, zq, wq⟩ := q
  have zf : ∀ e j : Nat, ¬ (e = 34 ∨ e = 35 ∨ (e = 28 ∧ (j = 9 ∨ j = 10)) ∨ (66 ≤ e ∧ e ≤ 76 ∧ ¬ (e = 66 ∧ j = 2) ∧ e ≠ 67 ∧ e ≠ 68)) → z.2 e j = x e j := fun e j q => zq e j (by unfold cXP; omega)
  have wf : ∀ e j : Nat, ¬ ((e = 150 ∧ (j = 78 ∨ j = 84 ∨ j = 85 ∨ (44 ≤ j ∧ j ≤ 57))) ∨ e = 180 ∨ e = 181 ∨ (189 ≤ e ∧ e ≤ 193)) → w.2 e j = m e j := fun e j q => wq e j (by unfold cMO; omega)
  have p : RP z.2 w.2 := kpP (fun e j q => zf e j (by unfold fpP at q; omega)) (fun e j q => wf e j (by unfold gpP at q; omega)) r5
  have d : RD z.2 w.2 := ⟨n, P, by rw [wf 150 5 (by omega), hn], RO_kp (kpM_of (x := x) r1.2 (r5.1 8 (by decide)) (TX_cg (x := z.2) (m := w.2) (t := 28) (zf 28 0 (by omega)).symm (fun i h1 h2 => funext fun j => (zf _ j (by omega)).symm) (fun _ _ _ => rfl) (p.1 8 (by decide))) r5.2 p.2 hn (fun e i h1 h2 _ => wf e i (by omega)) (fun i _ => wf 159 i (by omega)) ⟨funext fun j => wf 187 j (by omega), funext fun j => wf 188 j (by omega)⟩) (wf 150 75 (by omega)) (fun _ _ _ => rfl) qO⟩
  exact ⟨e1, ⟨kpS (fun e j q => zf e j (by unfold fpS at q; omega)) (fun e j q => wf e j (by unfold gpS at q; omega)) r1, kpT (fun e j q => zf e j (by unfold fpT at q; omega)) (fun e j q => wf e j (by unfold gpT at q; omega)) r2, kpC (fun e j q => zf e j (by unfold fpC at q; omega)) (fun e j q => wf e j (by unfold gpC at q; omega)) r3, kpE (fun e j q => zf e j (by unfold fpE at q; omega)) (fun e j q q' => wf e j (by unfold gpE at q; omega)) (by rw [wf 150 3 (by omega)]; exact Int.le_refl _) r4, p, ⟨kpA (fun e j q => zf e j (by unfold fpA at q; omega)) r6, kpt (fun j => zf 50 j (by omega)) r7, kph (fun j => zf 42 j (by omega)) r8, qp⟩, d⟩, fun e j q => zf e j (by omega), fun e j q => wf e j (by omega)⟩

theorem al_ahead {a b : Int} (ha : I32 a) (hb : I32 b) : ∀ x m, RAll x m → OK (X11_ahead a b x) (fun z => OK (X12_ahead a b m) (fun w => z.1 = w.1 ∧ RAll z.2 w.2 ∧ (∀ e j, 150 ≤ e → z.2 e j = x e j) ∧ ∀ e j, e < 150 → w.2 e j = m e j)) := by
  intro x m ⟨r1, r2, r3, r4, r5, ⟨r6, r7, r8, r9⟩, r10⟩
  obtain ⟨n, P, hn, O⟩ := id r10
  refine OK2_mono (ahead_b r1 O ha hb) (fun z w q => ?_)
  obtain ⟨e1, ⟨P', qO⟩, zq, wq⟩ := q
  have zf : ∀ e j : Nat, ¬ ((e = 66 ∧ (j = 2 ∨ j = 16)) ∨ e = 67 ∨ e = 68) → z.2 e j = x e j := fun e j q => zq e j (by unfold cXA; omega)
  have wf : ∀ e j : Nat, ¬ ((e = 150 ∧ j = 75) ∨ e = 187 ∨ e = 188) → w.2 e j = m e j := fun e j q => wq e j (by unfold cMA; omega)
  have p : RP z.2 w.2 := kpP (fun e j q => zf e j (by unfold fpP at q; omega)) (fun e j q => wf e j (by unfold gpP at q; omega)) r5
  exact ⟨e1, ⟨kpS (fun e j q => zf e j (by unfold fpS at q; omega)) (fun e j q => wf e j (by unfold gpS at q; omega)) r1, kpT (fun e j q => zf e j (by unfold fpT at q; omega)) (fun e j q => wf e j (by unfold gpT at q; omega)) r2, kpC (fun e j q => zf e j (by unfold fpC at q; omega)) (fun e j q => wf e j (by unfold gpC at q; omega)) r3, kpE (fun e j q => zf e j (by unfold fpE at q; omega)) (fun e j q q' => wf e j (by unfold gpE at q; omega)) (by rw [wf 150 3 (by omega)]; exact Int.le_refl _) r4, p, ⟨kpA (fun e j q => zf e j (by unfold fpA at q; omega)) r6, kpt (fun j => zf 50 j (by omega)) r7, kph (fun j => zf 42 j (by omega)) r8, kpp (fun j => zf 34 j (by omega)) r9⟩, ⟨n, P', by rw [wf 150 5 (by omega), hn], qO⟩⟩, fun e j q => zf e j (by omega), fun e j q => wf e j (by omega)⟩

theorem al_truth {v n c : Int} (hn : I32 n) (hc : I32 c) : ∀ x m, RAll x m → OK (X11_truth v n c x) (fun z => OK (X12_truth v n c m) (fun w => z.1 = w.1 ∧ RAll z.2 w.2 ∧ (∀ e j, 150 ≤ e → z.2 e j = x e j) ∧ ∀ e j, e < 150 → w.2 e j = m e j)) := by
  intro x m ⟨r1, r2, r3, r4, r5, ⟨r6, r7, r8, r9⟩, r10⟩
  refine OK2_mono (truth_b r1 (r5.1 10 (by decide)) r5.2 r7 hn hc) (fun z w q => ?_)
  obtain ⟨e1, zq, qt, wq⟩ := q
  have zf : ∀ e j : Nat, ¬ ((e = 44 ∧ (j = 9 ∨ j = 10)) ∨ (e = 50 ∧ (j = 1 ∨ j = 2 ∨ j = 13)) ∨ e = 51) → z.2 e j = x e j := fun e j q => zq e j (by omega) (by omega) (by omega)
  have wf : ∀ e j : Nat, ¬ ((e = 150 ∧ 44 ≤ j ∧ j ≤ 57) ∨ e = 180 ∨ e = 181) → w.2 e j = m e j := fun e j q => wq e j (by omega) (by omega) (by omega)
  have p : RP z.2 w.2 := kpP (fun e j q => zf e j (by unfold fpP at q; omega)) (fun e j q => wf e j (by unfold gpP at q; omega)) r5
  exact ⟨e1, ⟨kpS (fun e j q => zf e j (by unfold fpS at q; omega)) (fun e j q => wf e j (by unfold gpS at q; omega)) r1, kpT (fun e j q => zf e j (by unfold fpT at q; omega)) (fun e j q => wf e j (by unfold gpT at q; omega)) r2, kpC (fun e j q => zf e j (by unfold fpC at q; omega)) (fun e j q => wf e j (by unfold gpC at q; omega)) r3, kpE (fun e j q => zf e j (by unfold fpE at q; omega)) (fun e j q q' => wf e j (by unfold gpE at q; omega)) (by rw [wf 150 3 (by omega)]; exact Int.le_refl _) r4, p, ⟨kpA (fun e j q => zf e j (by unfold fpA at q; omega)) r6, qt, kph (fun j => zf 42 j (by omega)) r8, kpp (fun j => zf 34 j (by omega)) r9⟩, kpD r1.2 r5 p ⟨zf 28 0 (by omega), fun e j h1 h2 => zf e j (by omega)⟩ (fun e j q => zf e j (by unfold fpD at q; omega)) (fun e j q => wf e j (by unfold gpD at q; omega)) (fun i _ => wf 159 i (by omega)) r10⟩, fun e j q => zf e j (by omega), fun e j q => wf e j (by omega)⟩

theorem al_whose {s c : Int} (hs : I32 s) (hc : I32 c) : ∀ x m, RAll x m → OK (X11_whose s c x) (fun z => OK (X12_whose s c m) (fun w => z.1 = w.1 ∧ RAll z.2 w.2 ∧ (∀ e j, 150 ≤ e → z.2 e j = x e j) ∧ ∀ e j, e < 150 → w.2 e j = m e j)) := by
  intro x m ⟨r1, r2, r3, r4, r5, ⟨r6, r7, r8, r9⟩, r10⟩
  refine OK2_mono (whose_b r1 (r5.1 9 (by decide)) r5.2 r8 hs hc) (fun z w q => ?_)
  obtain ⟨e1, qh, zq, wq⟩ := q
  have zf : ∀ e j : Nat, ¬ ((e = 77 ∧ 3 ≤ j ∧ j ≤ 6) ∨ e = 78 ∨ e = 42 ∨ e = 43 ∨ (e = 36 ∧ (j = 9 ∨ j = 10))) → z.2 e j = x e j := fun e j q => zq e j (by unfold cXH; omega)
  have wf : ∀ e j : Nat, ¬ ((e = 150 ∧ 44 ≤ j ∧ j ≤ 57) ∨ e = 180 ∨ e = 181 ∨ e = 194 ∨ e = 195) → w.2 e j = m e j := fun e j q => wq e j (by unfold cMW; omega)
  have p : RP z.2 w.2 := kpP (fun e j q => zf e j (by unfold fpP at q; omega)) (fun e j q => wf e j (by unfold gpP at q; omega)) r5
  exact ⟨e1, ⟨kpS (fun e j q => zf e j (by unfold fpS at q; omega)) (fun e j q => wf e j (by unfold gpS at q; omega)) r1, kpT (fun e j q => zf e j (by unfold fpT at q; omega)) (fun e j q => wf e j (by unfold gpT at q; omega)) r2, kpC (fun e j q => zf e j (by unfold fpC at q; omega)) (fun e j q => wf e j (by unfold gpC at q; omega)) r3, kpE (fun e j q => zf e j (by unfold fpE at q; omega)) (fun e j q q' => wf e j (by unfold gpE at q; omega)) (by rw [wf 150 3 (by omega)]; exact Int.le_refl _) r4, p, ⟨kpA (fun e j q => zf e j (by unfold fpA at q; omega)) r6, kpt (fun j => zf 50 j (by omega)) r7, qh, kpp (fun j => zf 34 j (by omega)) r9⟩, kpD r1.2 r5 p ⟨zf 28 0 (by omega), fun e j h1 h2 => zf e j (by omega)⟩ (fun e j q => zf e j (by unfold fpD at q; omega)) (fun e j q => wf e j (by unfold gpD at q; omega)) (fun i _ => wf 159 i (by omega)) r10⟩, fun e j q => zf e j (by omega), fun e j q => wf e j (by omega)⟩

theorem al_men {a c : Int} (ha : I32 a) (hc : I32 c) : ∀ x m, RAll x m → OK (X11_men a c x) (fun z => OK (X12_men a c m) (fun w => z.1 = w.1 ∧ RAll z.2 w.2 ∧ (∀ e j, 150 ≤ e → z.2 e j = x e j) ∧ ∀ e j, e < 150 → w.2 e j = m e j)) := by
  intro x m ⟨r1, r2, r3, r4, r5, ⟨r6, r7, r8, r9⟩, r10⟩
  refine OK2_mono (men_b r1 ha hc) (fun z w q => ?_)
  obtain ⟨e1, zq, wq⟩ := q
  have zf : ∀ e j : Nat, ¬ ((e = 77 ∧ (j = 7 ∨ j = 10 ∨ j = 11)) ∨ e = 79 ∨ e = 80) → z.2 e j = x e j := fun e j q => zq e j (by unfold cXM; omega)
  have wf : ∀ e j : Nat, ¬ ((e = 150 ∧ j = 78) ∨ e = 189) → w.2 e j = m e j := fun e j q => wq e j (by unfold cMN; omega)
  have p : RP z.2 w.2 := kpP (fun e j q => zf e j (by unfold fpP at q; omega)) (fun e j q => wf e j (by unfold gpP at q; omega)) r5
  exact ⟨e1, ⟨kpS (fun e j q => zf e j (by unfold fpS at q; omega)) (fun e j q => wf e j (by unfold gpS at q; omega)) r1, kpT (fun e j q => zf e j (by unfold fpT at q; omega)) (fun e j q => wf e j (by unfold gpT at q; omega)) r2, kpC (fun e j q => zf e j (by unfold fpC at q; omega)) (fun e j q => wf e j (by unfold gpC at q; omega)) r3, kpE (fun e j q => zf e j (by unfold fpE at q; omega)) (fun e j q q' => wf e j (by unfold gpE at q; omega)) (by rw [wf 150 3 (by omega)]; exact Int.le_refl _) r4, p, ⟨kpA (fun e j q => zf e j (by unfold fpA at q; omega)) r6, kpt (fun j => zf 50 j (by omega)) r7, kph (fun j => zf 42 j (by omega)) r8, kpp (fun j => zf 34 j (by omega)) r9⟩, kpD r1.2 r5 p ⟨zf 28 0 (by omega), fun e j h1 h2 => zf e j (by omega)⟩ (fun e j q => zf e j (by unfold fpD at q; omega)) (fun e j q => wf e j (by unfold gpD at q; omega)) (fun i _ => wf 159 i (by omega)) r10⟩, fun e j q => zf e j (by omega), fun e j q => wf e j (by omega)⟩

theorem al_gives {a b c : Int} (ha : I32 a) (hb : I32 b) (hc : I32 c) : ∀ x m, RAll x m → OK (X11_gives a b c x) (fun z => OK (X12_gives a b c m) (fun w => z.1 = w.1 ∧ RAll z.2 w.2 ∧ (∀ e j, 150 ≤ e → z.2 e j = x e j) ∧ ∀ e j, e < 150 → w.2 e j = m e j)) := by
  intro x m ⟨r1, r2, r3, r4, r5, ⟨r6, r7, r8, r9⟩, r10⟩
  refine OK2_mono (gives_b r1 r4 ha hb hc) (fun z w q => ?_)
  obtain ⟨e1, qE, zq, wq⟩ := q
  have zf : ∀ e j : Nat, ¬ ((e = 81 ∧ j = 1) ∨ (82 ≤ e ∧ e ≤ 84)) → z.2 e j = x e j := fun e j q => zq e j (by omega) (by omega)
  have wf : ∀ e j : Nat, ¬ ((e = 150 ∧ j = 88) ∨ (196 ≤ e ∧ e ≤ 198)) → w.2 e j = m e j := fun e j q => wq e j (by omega) (by omega)
  have p : RP z.2 w.2 := kpP (fun e j q => zf e j (by unfold fpP at q; omega)) (fun e j q => wf e j (by unfold gpP at q; omega)) r5
  exact ⟨e1, ⟨kpS (fun e j q => zf e j (by unfold fpS at q; omega)) (fun e j q => wf e j (by unfold gpS at q; omega)) r1, kpT (fun e j q => zf e j (by unfold fpT at q; omega)) (fun e j q => wf e j (by unfold gpT at q; omega)) r2, kpC (fun e j q => zf e j (by unfold fpC at q; omega)) (fun e j q => wf e j (by unfold gpC at q; omega)) r3, qE, p, ⟨kpA (fun e j q => zf e j (by unfold fpA at q; omega)) r6, kpt (fun j => zf 50 j (by omega)) r7, kph (fun j => zf 42 j (by omega)) r8, kpp (fun j => zf 34 j (by omega)) r9⟩, kpD r1.2 r5 p ⟨zf 28 0 (by omega), fun e j h1 h2 => zf e j (by omega)⟩ (fun e j q => zf e j (by unfold fpD at q; omega)) (fun e j q => wf e j (by unfold gpD at q; omega)) (fun i _ => wf 159 i (by omega)) r10⟩, fun e j q => zf e j (by omega), fun e j q => wf e j (by omega)⟩

theorem al_check {a b : Int} (ha : I32 a) (hb : I32 b) : ∀ x m, RAll x m → OK (X11_check a b x) (fun z => OK (X12_check a b m) (fun w => z.1 = w.1 ∧ RAll z.2 w.2 ∧ (∀ e j, 150 ≤ e → z.2 e j = x e j) ∧ ∀ e j, e < 150 → w.2 e j = m e j)) := by
  intro x m ⟨r1, r2, r3, r4, r5, ⟨r6, r7, r8, r9⟩, r10⟩
  refine OK2_mono (check_b r1 r2 ha hb) (fun z w q => ?_)
  obtain ⟨e1, qT, zq, wq⟩ := q
  have zf : ∀ e j : Nat, ¬ (e = 1 ∧ j = 1) → z.2 e j = x e j := zq
  have wf : ∀ e j : Nat, ¬ (e = 150 ∧ j = 1) → w.2 e j = m e j := wq
  have p : RP z.2 w.2 := kpP (fun e j q => zf e j (by unfold fpP at q; omega)) (fun e j q => wf e j (by unfold gpP at q; omega)) r5
  exact ⟨e1, ⟨kpS (fun e j q => zf e j (by unfold fpS at q; omega)) (fun e j q => wf e j (by unfold gpS at q; omega)) r1, qT, kpC (fun e j q => zf e j (by unfold fpC at q; omega)) (fun e j q => wf e j (by unfold gpC at q; omega)) r3, kpE (fun e j q => zf e j (by unfold fpE at q; omega)) (fun e j q q' => wf e j (by unfold gpE at q; omega)) (by rw [wf 150 3 (by omega)]; exact Int.le_refl _) r4, p, ⟨kpA (fun e j q => zf e j (by unfold fpA at q; omega)) r6, kpt (fun j => zf 50 j (by omega)) r7, kph (fun j => zf 42 j (by omega)) r8, kpp (fun j => zf 34 j (by omega)) r9⟩, kpD r1.2 r5 p ⟨zf 28 0 (by omega), fun e j h1 h2 => zf e j (by omega)⟩ (fun e j q => zf e j (by unfold fpD at q; omega)) (fun e j q => wf e j (by unfold gpD at q; omega)) (fun i _ => wf 159 i (by omega)) r10⟩, fun e j q => zf e j (by omega), fun e j q => wf e j (by omega)⟩

theorem al_length {a b c : Int} (ha : I32 a) (hb : I32 b) (hc : I32 c) : ∀ x m, RAll x m → OK (X11_length a b c x) (fun z => OK (X12_length a b c m) (fun w => z.1 = w ∧ RAll z.2 m ∧ ∀ e j, 150 ≤ e → z.2 e j = x e j)) := by
  intro x m ⟨r1, r2, r3, r4, r5, ⟨r6, r7, r8, r9⟩, r10⟩
  refine OK2_mono (length_b r1 ha hb hc) (fun z w q => ?_)
  obtain ⟨e1, zq⟩ := q
  have zf : ∀ e j : Nat, ¬ (e = 52) → z.2 e j = x e j := fun e j q => zq e j q
  have wf : ∀ e j : Nat, ¬ (e + 1 = 0) → m e j = m e j := fun _ _ _ => rfl
  have p : RP z.2 m := kpP (fun e j q => zf e j (by unfold fpP at q; omega)) (fun e j q => wf e j (by unfold gpP at q; omega)) r5
  exact ⟨e1, ⟨kpS (fun e j q => zf e j (by unfold fpS at q; omega)) (fun e j q => wf e j (by unfold gpS at q; omega)) r1, kpT (fun e j q => zf e j (by unfold fpT at q; omega)) (fun e j q => wf e j (by unfold gpT at q; omega)) r2, kpC (fun e j q => zf e j (by unfold fpC at q; omega)) (fun e j q => wf e j (by unfold gpC at q; omega)) r3, kpE (fun e j q => zf e j (by unfold fpE at q; omega)) (fun e j q q' => wf e j (by unfold gpE at q; omega)) (by rw [wf 150 3 (by omega)]; exact Int.le_refl _) r4, p, ⟨kpA (fun e j q => zf e j (by unfold fpA at q; omega)) r6, kpt (fun j => zf 50 j (by omega)) r7, kph (fun j => zf 42 j (by omega)) r8, kpp (fun j => zf 34 j (by omega)) r9⟩, kpD r1.2 r5 p ⟨zf 28 0 (by omega), fun e j h1 h2 => zf e j (by omega)⟩ (fun e j q => zf e j (by unfold fpD at q; omega)) (fun e j q => wf e j (by unfold gpD at q; omega)) (fun i _ => wf 159 i (by omega)) r10⟩, fun e j q => zf e j (by omega)⟩

theorem al_span {a b c : Int} (ha : I32 a) (hb : I32 b) (hc : I32 c) : ∀ x m, RAll x m → OK (X11_span a b c x) (fun z => OK (X12_span a b c m) (fun w => z.1 = w ∧ RAll z.2 m ∧ ∀ e j, 150 ≤ e → z.2 e j = x e j)) := by
  intro x m ⟨r1, r2, r3, r4, r5, ⟨r6, r7, r8, r9⟩, r10⟩
  refine OK2_mono (span_b r1 ha hb hc) (fun z w q => ?_)
  obtain ⟨e1, zq⟩ := q
  have zf : ∀ e j : Nat, ¬ (e = 52) → z.2 e j = x e j := fun e j q => zq e j q
  have wf : ∀ e j : Nat, ¬ (e + 1 = 0) → m e j = m e j := fun _ _ _ => rfl
  have p : RP z.2 m := kpP (fun e j q => zf e j (by unfold fpP at q; omega)) (fun e j q => wf e j (by unfold gpP at q; omega)) r5
  exact ⟨e1, ⟨kpS (fun e j q => zf e j (by unfold fpS at q; omega)) (fun e j q => wf e j (by unfold gpS at q; omega)) r1, kpT (fun e j q => zf e j (by unfold fpT at q; omega)) (fun e j q => wf e j (by unfold gpT at q; omega)) r2, kpC (fun e j q => zf e j (by unfold fpC at q; omega)) (fun e j q => wf e j (by unfold gpC at q; omega)) r3, kpE (fun e j q => zf e j (by unfold fpE at q; omega)) (fun e j q q' => wf e j (by unfold gpE at q; omega)) (by rw [wf 150 3 (by omega)]; exact Int.le_refl _) r4, p, ⟨kpA (fun e j q => zf e j (by unfold fpA at q; omega)) r6, kpt (fun j => zf 50 j (by omega)) r7, kph (fun j => zf 42 j (by omega)) r8, kpp (fun j => zf 34 j (by omega)) r9⟩, kpD r1.2 r5 p ⟨zf 28 0 (by omega), fun e j h1 h2 => zf e j (by omega)⟩ (fun e j q => zf e j (by unfold fpD at q; omega)) (fun e j q => wf e j (by unfold gpD at q; omega)) (fun i _ => wf 159 i (by omega)) r10⟩, fun e j q => zf e j (by omega)⟩
