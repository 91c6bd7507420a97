/-! THE ORDER: the other side's tables -/
theorem foV_bd {c : Nat → Int × Nat} {N B : Nat} (H : ∀ a, a < N → -20000 ≤ (c a).1 ∧ (c a).1 ≤ 20000 ∧ (c a).2 ≤ B) : ∀ p, p ≤ N → -20000 ≤ (foV c p).1 ∧ (foV c p).1 ≤ 20000 ∧ (foV c p).2 ≤ B * p := by
  intro p
  induction p with
  | zero =>
    intro _
    show (-20000 : Int) ≤ 0 ∧ (0 : Int) ≤ 20000 ∧ 0 ≤ _
    exact ⟨by decide, by decide, Nat.zero_le _⟩
  | succ p ih =>
    intro hp
    obtain ⟨h1, h2, h3⟩ := ih (by omega)
    obtain ⟨k1, k2, k3⟩ := H p (by omega)
    have e : B * (p + 1) = B * p + B := Nat.mul_succ B p
    rw [foV_s, e]
    unfold joV
    split
    · exact ⟨h1, h2, by omega⟩
    split
    · exact ⟨k1, k2, by omega⟩
    split
    · exact ⟨h1, h2, by show (foV c p).2 + (c p).2 ≤ _; omega⟩
    · exact ⟨h1, h2, by omega⟩
theorem mayC_s {N : Nat} {A : Nat → Nat → Bool} {g : Nat → Nat → Int} {h : Hp} (G : okG N A g) (H : grM N A g h) {s p : Nat} (hs : s < 2 ^ N) (hp : p < N) : X12_mayCome (s : Int) (p : Int) h = some (if mayB N A s p = true then 1 else 0) := by
  obtain ⟨hN, hAN, -, -⟩ := G
  obtain ⟨-, hA, -⟩ := H
  have s10 := p2_10 hN
  have BS : BSt (s : Int) (fun i => s.testBit i) := BSt_nat (by omega)
  unfold X12_mayCome
  rw [BSt_has BS (by omega), Option.bind_some]
  cases hb : s.testBit p with
  | true =>
    have n1 : ¬ mayB N A s p = true := fun q => by
      have := mayB_nb q
      rw [hb] at this
      cases this
    rw [if_pos (by decide), if_neg n1]
  | false =>
    rw [if_neg (by decide)]
    have BZ := BSt_an (hA p hp) BS
    rw [if_pos (inb_t (v := (p : Int)) (n := 10) (by omega) (by omega) (by omega)), wtn p rfl (by omega), (BSt_w BZ).1]
    by_cases c : mayB N A s p = true
    · have ci := mayB_iff.mp c
      have z : and32 (h 190 p) (xor32 (s : Int) (-1)) = 0 := (BSt_z BZ).mpr (fun i => by
        cases q : A p i with
        | false => rfl
        | true => rw [ci.2 i (hAN p i q) q]; rfl)
      rw [if_neg (fun q => q z), if_pos c]
    · have z : ¬ and32 (h 190 p) (xor32 (s : Int) (-1)) = 0 := fun q => c (mayB_iff.mpr ⟨hb, fun b hb2 hA => by
        have := (BSt_z BZ).mp q b
        rw [hA, Bool.true_and, Bool.not_eq_false'] at this
        exact this⟩)
      rw [if_pos z, if_neg c]
def lOk (N s l : Nat) (lv : Nat) : Prop := (s = 0 ∧ l = 10 ∧ lv = 0) ∨ (s ≠ 0 ∧ l < N ∧ lv = l ∧ s.testBit l = true)
theorem weighs_s {N : Nat} {A : Nat → Nat → Bool} {g : Nat → Nat → Int} {h : Hp} (G : okG N A g) (H : grM N A g h) {s l lv : Nat} (hs : s < 2 ^ N) (hr : remN N s ≠ 0) (hl : lOk N s l lv) (HT : ∀ p, p < N → s.testBit p = false → h 192 (10 * (s ||| 2 ^ p) + p) = (VV N A g (s ||| 2 ^ p) p).1 ∧ h 193 (10 * (s ||| 2 ^ p) + p) = (((VV N A g (s ||| 2 ^ p) p).2 : Nat) : Int)) : X12_weighs (s : Int) (lv : Int) h = some (setH (setH h 192 (10 * s + lv) (VV N A g s l).1) 193 (10 * s + lv) (((VV N A g s l).2 : Nat) : Int)) := by
  obtain ⟨hN, hAN, h10, hg⟩ := id G
  obtain ⟨h78, h190, h191⟩ := id H
  have s10 := p2_10 hN
  have rN : remN N s ≤ N := cnBt_le _ _
  have lv10 : lv < 10 := by
    rcases hl with ⟨-, -, q⟩ | ⟨-, q1, q2, -⟩ <;> omega
  have fb := foV_bd (c := cdV N A g (VV N A g) s l) (N := N) (fun a ha => cd_bd G ha)
  have key : OK (iter (X12_weighs_l6 (s : Int) (lv : Int)) FU (0, 0, 0, h)) (fun z => z = ((VV N A g s l).1, (((VV N A g s l).2 : Nat) : Int), h)) := by
    refine iter_up (fun p st => p ≤ N ∧ st = ((foV (cdV N A g (VV N A g) s l) p).1, (((foV (cdV N A g (VV N A g) s l) p).2 : Nat) : Int), (p : Int), h)) _ N (by omega) (fun p st hp hI => ?_) ⟨Nat.zero_le _, rfl⟩
    obtain ⟨-, rfl⟩ := hI
    unfold X12_weighs_l6 X12_weighs_j58 X12_weighs_j67 X12_weighs_j79
    dsimp only
    simp only [h78, w32_id (z := (N : Int)) (by omega) (by omega), w32_id (z := (p : Int)) (by omega) (by omega)]
    refine OK_if (fun c => ?_) (fun c => ?_)
    · rw [OK_some, LQ_r, VV_s hr, show p = N from by omega]
    · have hpN : p < N := by omega
      obtain ⟨f1, f2, f3⟩ := fb p hp
      obtain ⟨c1, c2, c3⟩ := cd_bd G (s := s) (l := l) hpN
      rw [mayC_s G H hs hpN, OK_bindE, OK_some]
      have none : (cdV N A g (VV N A g) s l p).2 = 0 → LQ (fun (s' : Int × Int × Int × Hp) => p < N ∧ (p + 1 ≤ N ∧ s' = ((foV (cdV N A g (VV N A g) s l) (p + 1)).1, (((foV (cdV N A g (VV N A g) s l) (p + 1)).2 : Nat) : Int), ((p + 1 : Nat) : Int), h))) (fun z => z = ((VV N A g s l).1, (((VV N A g s l).2 : Nat) : Int), h)) (Sum.inl ((foV (cdV N A g (VV N A g) s l) p).1, (((foV (cdV N A g (VV N A g) s l) p).2 : Nat) : Int), (p : Int) + 1, h)) := by
        intro q
        have e : foV (cdV N A g (VV N A g) s l) (p + 1) = foV (cdV N A g (VV N A g) s l) p := by
          rw [foV_s]
          unfold joV
          rw [if_pos q]
        rw [LQ_l, e]
        exact ⟨hpN, by omega, rfl⟩
      by_cases o : mayB N A s p = true
      · rw [if_pos o]
        have nb := mayB_nb o
        have l2 := or2_lt hs hpN
        obtain ⟨t1, t2⟩ := HT p hpN nb
        have vb := VV_bd G (s ||| 2 ^ p) p
        have ec := cdV_p (W := VV N A g) (g := g) (l := l) o
        have ec1 : (cdV N A g (VV N A g) s l p).1 = (VV N A g (s ||| 2 ^ p) p).1 + g l p := by rw [ec]
        have ec2 : (cdV N A g (VV N A g) s l p).2 = (VV N A g (s ||| 2 ^ p) p).2 := by rw [ec]
        rw [or2_i (by omega) (by omega)]
        simp only [wtn (v := 10 * ((s ||| 2 ^ p : Nat) : Int) + (p : Int)) (10 * (s ||| 2 ^ p) + p) (by omega) (by omega), t1, t2]
        refine OK_gd (by decide) (OK_gi (by omega) (by omega) (by omega) ?_)
        by_cases d : (VV N A g (s ||| 2 ^ p) p).2 = 0
        · refine OK_gn (fun q => q ((w64_nz (by omega)).mpr d)) ?_
          rw [OK_some]
          exact none (by rw [ec2, d])
        · refine OK_gd (fun q => d ((w64_nz (by omega)).mp q)) (OK_gi (by omega) (by omega) (by omega) ?_)
          have body : ∀ gv : Int, gv = g l p → OK (if w32 (cmp64 (((foV (cdV N A g (VV N A g) s l) p).2 : Nat) : Int) 0) = 0 then some (Sum.inl ((VV N A g (s ||| 2 ^ p) p).1 + gv, (((VV N A g (s ||| 2 ^ p) p).2 : Nat) : Int), (p : Int) + 1, h)) else if w32 ((VV N A g (s ||| 2 ^ p) p).1 + gv) ≤ w32 (foV (cdV N A g (VV N A g) s l) p).1 then if w32 ((VV N A g (s ||| 2 ^ p) p).1 + gv) ≠ w32 (foV (cdV N A g (VV N A g) s l) p).1 then some (Sum.inl ((foV (cdV N A g (VV N A g) s l) p).1, (((foV (cdV N A g (VV N A g) s l) p).2 : Nat) : Int), (p : Int) + 1, h)) else some (Sum.inl ((foV (cdV N A g (VV N A g) s l) p).1, (((foV (cdV N A g (VV N A g) s l) p).2 : Nat) : Int) + (((VV N A g (s ||| 2 ^ p) p).2 : Nat) : Int), (p : Int) + 1, h)) else some (Sum.inl ((VV N A g (s ||| 2 ^ p) p).1 + gv, (((VV N A g (s ||| 2 ^ p) p).2 : Nat) : Int), (p : Int) + 1, h))) (LQ (fun (s' : Int × Int × Int × Hp) => p < N ∧ (p + 1 ≤ N ∧ s' = ((foV (cdV N A g (VV N A g) s l) (p + 1)).1, (((foV (cdV N A g (VV N A g) s l) (p + 1)).2 : Nat) : Int), ((p + 1 : Nat) : Int), h))) (fun z => z = ((VV N A g s l).1, (((VV N A g s l).2 : Nat) : Int), h))) := by
            intro gv egv
            subst egv
            have hj := foV_s (cdV N A g (VV N A g) s l) p
            unfold joV at hj
            rw [if_neg (by rw [ec2]; exact d)] at hj
            rw [← ec1, ← ec2]
            simp only [w32_id (z := (cdV N A g (VV N A g) s l p).1) (by omega) (by omega), w32_id (z := (foV (cdV N A g (VV N A g) s l) p).1) (by omega) (by omega)]
            by_cases r0 : (foV (cdV N A g (VV N A g) s l) p).2 = 0
            · rw [if_pos (Or.inl r0)] at hj
              refine OK_gd ((w64_nz (by omega)).mpr r0) ?_
              rw [OK_some, LQ_l, hj]
              exact ⟨hpN, by omega, rfl⟩
            · refine OK_gn (fun q => r0 ((w64_nz (by omega)).mp q)) (OK_if (fun f => OK_if (fun f' => ?_) (fun f' => ?_)) (fun f => ?_))
              · rw [if_neg (fun q => by rcases q with q | q; exact r0 q; omega), if_neg f'] at hj
                rw [OK_some, LQ_l, hj]
                exact ⟨hpN, by omega, rfl⟩
              · have e3 : (cdV N A g (VV N A g) s l p).1 = (foV (cdV N A g (VV N A g) s l) p).1 := by omega
                rw [if_neg (fun q => by rcases q with q | q; exact r0 q; omega), if_pos e3] at hj
                rw [OK_some, LQ_l, hj]
                exact ⟨hpN, by omega, rfl⟩
              · rw [if_pos (Or.inr (by omega))] at hj
                rw [OK_some, LQ_l, hj]
                exact ⟨hpN, by omega, rfl⟩
          rcases hl with ⟨l1, l3, l4⟩ | ⟨l1, l3, l4, l5⟩
          · refine OK_gn (fun q => q (by rw [l1]; rfl)) ?_
            exact body 0 (by rw [l3, h10])
          · refine OK_gd (fun q => l1 (by rw [w32_id (by omega) (by omega)] at q; omega)) (OK_gi (by omega) (by omega) (by omega) ?_)
            have hne : l ≠ p := fun q => by
              rw [q, nb] at l5
              cases l5
            simp only [wtn (v := 10 * (lv : Int) + (p : Int)) (10 * l + p) (by omega) (by omega), h191 l p l3 hpN hne]
            exact body (g l p) rfl
      · rw [if_neg o]
        refine OK_gn (fun q => q rfl) ?_
        rw [OK_some]
        exact none (by rw [cdV_n o])
  obtain ⟨z, ez, hz⟩ := OK_ex key
  unfold X12_weighs
  rw [ez, hz, Option.bind_some, if_pos (inb_t (v := 10 * (s : Int) + (lv : Int)) (n := 10240) (by omega) (by omega) (by omega)), if_pos (inb_t (v := 10 * (s : Int) + (lv : Int)) (n := 10240) (by omega) (by omega) (by omega)), wtn (v := 10 * (s : Int) + (lv : Int)) (10 * s + lv) (by omega) (by omega)]
def tbM (N : Nat) (A : Nat → Nat → Bool) (g : Nat → Nat → Int) (h : Hp) (f : Nat) : Prop := ∀ t a, f ≤ t → t < 2 ^ N → a < N → t.testBit a = true → h 192 (10 * t + a) = (VV N A g t a).1 ∧ h 193 (10 * t + a) = (((VV N A g t a).2 : Nat) : Int)
theorem grM_cg {N : Nat} {A : Nat → Nat → Bool} {g : Nat → Nat → Int} {h u : Hp} (e5 : u 150 78 = h 150 78) (e70 : u 190 = h 190) (e71 : u 191 = h 191) (H : grM N A g h) : grM N A g u := by
  unfold grM at H ⊢
  rw [e5, e70, e71]
  exact H
theorem laysM_s {N : Nat} {A : Nat → Nat → Bool} {g : Nat → Nat → Int} {h : Hp} (G : okG N A g) (H : grM N A g h) (hN1 : 1 ≤ N) : OK (X12_laysOrder h) (fun z => z.1 = (if (VV N A g 0 10).2 = 0 then 0 else 1) ∧ (z.2 150 84 = (VV N A g 0 10).1 ∧ z.2 150 85 = (((VV N A g 0 10).2 : Nat) : Int)) ∧ tbM N A g z.2 1 ∧ (z.2 192 0 = (VV N A g 0 10).1) ∧ ∀ e j, e ≠ 192 → e ≠ 193 → ¬ (e = 150 ∧ (j = 84 ∨ j = 85)) → z.2 e j = h e j) := by
  obtain ⟨hN, hAN, h10, hg⟩ := id G
  obtain ⟨h78, -, -⟩ := id H
  have s10 := p2_10 hN
  have pN1 : 1 ≤ 2 ^ N := Nat.one_le_two_pow
  have vb0 := VV_bd G 0 10
  unfold X12_laysOrder
  rw [h78, shl32_n (by omega), OK_bindE]
  refine OK_mono (iter_dn (fun n st => n + 1 ≤ 2 ^ N ∧ ∃ u : Hp, st = ((n : Int), u) ∧ tbM N A g u (n + 1) ∧ ∀ e j, e ≠ 192 → e ≠ 193 → u e j = h e j) (fun z => tbM N A g z 1 ∧ ∀ e j, e ≠ 192 → e ≠ 193 → z e j = h e j) (fun n st hI => ?_) (2 ^ N - 1) (by omega) ⟨by omega, h, by rw [show ((2 ^ N : Nat) : Int) - 1 = ((2 ^ N - 1 : Nat) : Int) from by omega], fun t a h1 h2 => by omega, fun _ _ _ _ => rfl⟩) (fun z hz => ?_)
  · obtain ⟨hn, u, rfl, hT, hf⟩ := hI
    unfold X12_laysOrder_l9
    dsimp only
    simp only [w32_id (z := (n : Int)) (by omega) (by omega)]
    refine OK_if (fun c => ?_) (fun c => ?_)
    · rw [OK_some, LQ_r]
      have : n = 0 := by omega
      subst this
      exact ⟨hT, hf⟩
    · rw [OK_bindE]
      refine OK_mono (iter_up (fun l st => l ≤ N ∧ ∃ w : Hp, st = ((l : Int), w) ∧ tbM N A g w (n + 1) ∧ (∀ a, a < l → n.testBit a = true → w 192 (10 * n + a) = (VV N A g n a).1 ∧ w 193 (10 * n + a) = (((VV N A g n a).2 : Nat) : Int)) ∧ ∀ e j, e ≠ 192 → e ≠ 193 → w e j = h e j) (fun w => tbM N A g w n ∧ ∀ e j, e ≠ 192 → e ≠ 193 → w e j = h e j) N (by omega) (fun l st hl hI => ?_) ⟨Nat.zero_le _, u, rfl, hT, fun a ha => by omega, hf⟩) (fun w hw => ?_)
      · obtain ⟨-, w, rfl, wT, wl, wf⟩ := hI
        unfold X12_laysOrder_l13 X12_laysOrder_j49
        dsimp only
        simp only [wf 150 78 (by decide) (by decide), h78, w32_id (z := (N : Int)) (by omega) (by omega), w32_id (z := (l : Int)) (by omega) (by omega)]
        refine OK_if (fun d => ?_) (fun d => ?_)
        · rw [OK_some, LQ_r]
          refine ⟨fun t a h1 h2 h3 h4 => ?_, wf⟩
          by_cases e : t = n
          · subst e
            exact wl a (by omega) h4
          · exact wT t a (by omega) h2 h3 h4
        · have hlN : l < N := by omega
          rw [BSt_has (BSt_nat (s := n) (by omega)) (by omega), OK_bindE, OK_some]
          cases hb : n.testBit l with
          | false =>
            refine OK_gn (fun q => q rfl) ?_
            rw [OK_some, LQ_l]
            refine ⟨hlN, by omega, w, rfl, wT, fun a ha hab => ?_, wf⟩
            by_cases e : a = l
            · subst e
              rw [hb] at hab
              cases hab
            · exact wl a (by omega) hab
          | true =>
            have fin : LQ (fun (s' : Int × Hp) => l < N ∧ (l + 1 ≤ N ∧ ∃ w : Hp, s' = (((l + 1 : Nat) : Int), w) ∧ tbM N A g w (n + 1) ∧ (∀ a, a < l + 1 → n.testBit a = true → w 192 (10 * n + a) = (VV N A g n a).1 ∧ w 193 (10 * n + a) = (((VV N A g n a).2 : Nat) : Int)) ∧ ∀ e j, e ≠ 192 → e ≠ 193 → w e j = h e j)) (fun (w : Hp) => tbM N A g w n ∧ ∀ e j, e ≠ 192 → e ≠ 193 → w e j = h e j) (Sum.inl ((l : Int) + 1, setH (setH w 192 (10 * n + l) (VV N A g n l).1) 193 (10 * n + l) (((VV N A g n l).2 : Nat) : Int))) := by
              rw [LQ_l]
              refine ⟨hlN, by omega, _, rfl, fun t a h1 h2 h3 h4 => ?_, fun a ha hab => ?_, fun e j q1 q2 => by rw [setH_o q2, setH_o q1, wf e j q1 q2]⟩
              · rw [setH_o (by decide), setH_n (by omega), setH_n (by omega), setH_o (by decide)]
                exact wT t a h1 h2 h3 h4
              · by_cases e : a = l
                · subst e
                  rw [setH_o (by decide), setH_s, setH_s]
                  exact ⟨rfl, rfl⟩
                · rw [setH_o (by decide), setH_n (by omega), setH_n (by omega), setH_o (by decide)]
                  exact wl a (by omega) hab
            refine OK_gd (by decide) ?_
            simp only [w32_id (z := (n : Int)) (by omega) (by omega), w32_id (z := ((2 ^ N : Nat) : Int) - 1) (by omega) (by omega)]
            refine OK_if (fun d2 => ?_) (fun d2 => ?_)
            · have hr : remN N n ≠ 0 := fun q => by
                have := (all_iff (N := N) (s := n) (by omega)).mpr q
                omega
              have Hw : grM N A g w := grM_cg (wf 150 78 (by decide) (by decide)) (funext fun j => wf 190 j (by decide) (by decide)) (funext fun j => wf 191 j (by decide) (by decide)) H
              rw [weighs_s G Hw (s := n) (l := l) (lv := l) (by omega) hr (Or.inr ⟨by omega, hlN, rfl, hb⟩) (fun p hp hpb => wT _ p (by have := or2_gt hpb; omega) (or2_lt (by omega) hp) hp (by rw [tb_or2, decide_eq_true rfl, Bool.or_true])), OK_bindE, OK_some, OK_some]
              exact fin
            · have ea : remN N n = 0 := (all_iff (N := N) (s := n) (by omega)).mp (by omega)
              rw [VV_0 ea] at fin
              refine OK_gi (by omega) (by omega) (by omega) (OK_gi (by omega) (by omega) (by omega) ?_)
              simp only [wtn (v := 10 * (n : Int) + (l : Int)) (10 * n + l) (by omega) (by omega)]
              rw [OK_some]
              exact fin
      · rw [OK_some, LQ_l]
        exact ⟨n - 1, by omega, by omega, w, by rw [show (n : Int) + (-1) = ((n - 1 : Nat) : Int) from by omega], by rw [show n - 1 + 1 = n from by omega]; exact hw.1, hw.2⟩
  · obtain ⟨zT, zf⟩ := hz
    have Hz : grM N A g z := grM_cg (zf 150 78 (by decide) (by decide)) (funext fun j => zf 190 j (by decide) (by decide)) (funext fun j => zf 191 j (by decide) (by decide)) H
    have r0 : remN N 0 ≠ 0 := by rw [remN_0]; omega
    have ws := weighs_s G Hz (s := 0) (l := 10) (lv := 0) (by omega) r0 (Or.inl ⟨rfl, rfl, rfl⟩) (fun p hp hpb => zT _ p (by have := or2_gt hpb; omega) (or2_lt (by omega) hp) hp (by rw [tb_or2, decide_eq_true rfl, Bool.or_true]))
    rw [show ((0 : Nat) : Int) = 0 from rfl, show 10 * 0 + 0 = 0 from rfl] at ws
    rw [ws, OK_bindE, OK_some]
    have f84 : ∀ e j, e ≠ 192 → e ≠ 193 → ¬ (e = 150 ∧ (j = 84 ∨ j = 85)) → (setH (setH (setH (setH z 192 0 (VV N A g 0 10).1) 193 0 (((VV N A g 0 10).2 : Nat) : Int)) 150 84 (VV N A g 0 10).1) 150 85 (((VV N A g 0 10).2 : Nat) : Int)) e j = h e j := fun e j q1 q2 q3 => by
      rw [setH_f (by omega), setH_f (by omega), setH_o q2, setH_o q1, zf e j q1 q2]
    have t84 : tbM N A g (setH (setH (setH (setH z 192 0 (VV N A g 0 10).1) 193 0 (((VV N A g 0 10).2 : Nat) : Int)) 150 84 (VV N A g 0 10).1) 150 85 (((VV N A g 0 10).2 : Nat) : Int)) 1 := fun t a h1 h2 h3 h4 => by
      rw [setH_o (by decide), setH_o (by decide), setH_o (by decide), setH_n (by omega), setH_o (by decide), setH_o (by decide), setH_n (by omega), setH_o (by decide)]
      exact zT t a h1 h2 h3 h4
    refine OK_gi (by omega) (by omega) (by omega) (OK_gi (by omega) (by omega) (by omega) ?_)
    have a192 : (setH (setH z 192 0 (VV N A g 0 10).1) 193 0 (((VV N A g 0 10).2 : Nat) : Int)) 192 0 = (VV N A g 0 10).1 := by rw [setH_o (by decide), setH_s]
    have a193 : (setH (setH z 192 0 (VV N A g 0 10).1) 193 0 (((VV N A g 0 10).2 : Nat) : Int)) 193 0 = (((VV N A g 0 10).2 : Nat) : Int) := by rw [setH_s]
    simp only [show (w32 0).toNat = 0 from rfl, a192, a193]
    refine OK_if (fun c => ?_) (fun c => ?_)
    · have e0 : (VV N A g 0 10).2 = 0 := by
        by_cases q : (VV N A g 0 10).2 = 0
        · exact q
        · rw [cmp64_eq, w64_id (z := 0) (by omega) (by omega), w64_id (z := (((VV N A g 0 10).2 : Nat) : Int)) (by omega) (by omega), if_pos (by omega)] at c
          exact absurd c (by decide)
      rw [OK_some]
      refine ⟨by rw [if_pos e0], ⟨by (dsimp only; rw [setH_n (by decide), setH_s]), by (dsimp only; rw [setH_s])⟩, t84, by (dsimp only; rw [setH_o (by decide), setH_o (by decide), a192]), f84⟩
    · have e0 : (VV N A g 0 10).2 ≠ 0 := fun q => by
        rw [q] at c
        exact c (by decide)
      rw [OK_some]
      refine ⟨by rw [if_neg e0], ⟨by (dsimp only; rw [setH_n (by decide), setH_s]), by (dsimp only; rw [setH_s])⟩, t84, by (dsimp only; rw [setH_o (by decide), setH_o (by decide), a192]), f84⟩
