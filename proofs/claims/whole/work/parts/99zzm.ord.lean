/-! THE ORDER: its row on the other side -/
theorem mpV_iff {N : Nat} {A : Nat → Nat → Bool} {g : Nat → Nat → Int} (G : okG N A g) {s l p : Nat} (hp : p < N) : mpV (cdV N A g (VV N A g) s l p) = (VV N A g s l).1 ↔ (cdV N A g (VV N A g) s l p).2 ≠ 0 ∧ (cdV N A g (VV N A g) s l p).1 = (VV N A g s l).1 := by
  have cb := cd_bd G (s := s) (l := l) hp
  have vb := VV_bd G s l
  unfold mpV
  by_cases q : (cdV N A g (VV N A g) s l p).2 = 0
  · rw [if_pos q]
    exact ⟨fun r => by omega, fun r => absurd q r.1⟩
  · rw [if_neg q]
    exact ⟨fun r => ⟨q, r⟩, fun r => r.2⟩
theorem isNext_s {N : Nat} {A : Nat → Nat → Bool} {g : Nat → Nat → Int} {h : Hp} (G : okG N A g) (H : grM N A g h) {s l lv p : Nat} (hs : s < 2 ^ N) (hl : lOk N s l lv) (hp : p < N) (HT : s.testBit p = false → h 192 (10 * (s ||| 2 ^ p) + p) = (VV N A g (s ||| 2 ^ p) p).1 ∧ h 193 (10 * (s ||| 2 ^ p) + p) = (((VV N A g (s ||| 2 ^ p) p).2 : Nat) : Int)) (hV : h 192 (10 * s + lv) = (VV N A g s l).1) : X12_isNext (s : Int) (lv : Int) (p : Int) h = some (if mpV (cdV N A g (VV N A g) s l p) = (VV N A g s l).1 then 1 else 0) := by
  obtain ⟨hN, hAN, h10, hg⟩ := id G
  obtain ⟨h78, h190, h191⟩ := id H
  have s10 := p2_10 hN
  have lv10 : lv < 10 := by
    rcases hl with ⟨-, -, q⟩ | ⟨-, q1, q2, -⟩ <;> omega
  have iff := mpV_iff G (s := s) (l := l) hp
  have c3 := cd_bd G (s := s) (l := l) hp
  have v0 := VV_bd G s l
  unfold X12_isNext X12_isNext_j46
  rw [mayC_s G H hs hp, Option.bind_some]
  by_cases o : mayB N A s p = true
  · have nb := mayB_nb o
    have l2 := or2_lt hs hp
    obtain ⟨t1, t2⟩ := HT nb
    have vb := VV_bd G (s ||| 2 ^ p) p
    have ec := cdV_p (W := VV N A g) (g := g) (l := l) o
    have ec1 : (cdV N A g (VV N A g) s l p).1 = (VV N A g (s ||| 2 ^ p) p).1 + g l p := by rw [ec]
    have ec2 : (cdV N A g (VV N A g) s l p).2 = (VV N A g (s ||| 2 ^ p) p).2 := by rw [ec]
    rw [if_pos o, if_neg (show ¬ w32 1 = 0 by decide), or2_i (by omega) (by omega), if_pos (inb_t (v := 10 * ((s ||| 2 ^ p : Nat) : Int) + (p : Int)) (n := 10240) (by omega) (by omega) (by omega))]
    simp only [wtn (v := 10 * ((s ||| 2 ^ p : Nat) : Int) + (p : Int)) (10 * (s ||| 2 ^ p) + p) (by omega) (by omega), t1, t2]
    by_cases d : (VV N A g (s ||| 2 ^ p) p).2 = 0
    · rw [if_neg (show ¬ w32 (cmp64 (((VV N A g (s ||| 2 ^ p) p).2 : Nat) : Int) 0) ≠ 0 from fun q => q ((w64_nz (by omega)).mpr d)), if_neg (fun q => (iff.mp q).1 (by rw [ec2, d]))]
    · rw [if_pos (show w32 (cmp64 (((VV N A g (s ||| 2 ^ p) p).2 : Nat) : Int) 0) ≠ 0 from fun q => d ((w64_nz (by omega)).mp q)), if_pos (inb_t (v := 10 * ((s ||| 2 ^ p : Nat) : Int) + (p : Int)) (n := 10240) (by omega) (by omega) (by omega))]
      have body : ∀ gv : Int, gv = g l p → (if inb (10 * (s : Int) + (lv : Int)) 10240 then if w32 ((VV N A g (s ||| 2 ^ p) p).1 + gv) ≠ w32 (h 192 ((w32 (10 * (s : Int) + (lv : Int))).toNat)) then some (0 : Int) else some 1 else none) = some (if mpV (cdV N A g (VV N A g) s l p) = (VV N A g s l).1 then 1 else 0) := by
        intro gv eg
        subst eg
        rw [if_pos (inb_t (v := 10 * (s : Int) + (lv : Int)) (n := 10240) (by omega) (by omega) (by omega))]
        simp only [wtn (v := 10 * (s : Int) + (lv : Int)) (10 * s + lv) (by omega) (by omega), hV, ← ec1, w32_id (z := (cdV N A g (VV N A g) s l p).1) (by omega) (by omega), w32_id (z := (VV N A g s l).1) (by omega) (by omega)]
        by_cases e : (cdV N A g (VV N A g) s l p).1 = (VV N A g s l).1
        · rw [if_neg (fun q => q e), if_pos (iff.mpr ⟨by rw [ec2]; exact d, e⟩)]
        · rw [if_pos e, if_neg (fun q => e (iff.mp q).2)]
      rcases hl with ⟨l1, l3, l4⟩ | ⟨l1, l3, l4, l5⟩
      · rw [if_neg (show ¬ w32 (s : Int) ≠ 0 from fun q => q (by rw [l1]; rfl))]
        exact body 0 (by rw [l3, h10])
      · rw [if_pos (show w32 (s : Int) ≠ 0 from fun q => l1 (by rw [w32_id (by omega) (by omega)] at q; omega)), if_pos (inb_t (v := 10 * (lv : Int) + (p : Int)) (n := 100) (by omega) (by omega) (by omega))]
        have hne : l ≠ p := fun q => by
          rw [q, nb] at l5
          cases l5
        simp only [wtn (v := 10 * (lv : Int) + (p : Int)) (10 * l + p) (by omega) (by omega), h191 l p l3 hp hne]
        exact body (g l p) rfl
  · rw [if_neg o, if_pos (show w32 0 = 0 from rfl), if_neg (fun q => (iff.mp q).1 (by rw [cdV_n o]))]
def lvI (N : Nat) (A : Nat → Nat → Bool) (g : Nat → Nat → Int) (i : Nat) : Nat := if i = 0 then 0 else (lyS N A g i).2
theorem atPl_s {N : Nat} {A : Nat → Nat → Bool} {g : Nat → Nat → Int} {h : Hp} {mem : Nat → Nat} (G : okG N A g) (H : grM N A g h) (T : tbM N A g h 1) (h0 : (VV N A g 0 10).2 ≠ 0) (hV : h 192 0 = (VV N A g 0 10).1) (h189 : ∀ p, p < N → h 189 p = ((mem p : Nat) : Int)) {pl : Nat} (hp : pl < N) : X12_atPlace (pl : Int) h = some ((mem (lyC N A g (lyS N A g pl).1 (lyS N A g pl).2) : Nat) : Int) := by
  obtain ⟨hN, hAN, h10, hg⟩ := id G
  have s10 := p2_10 hN
  have key : OK (iter (X12_atPlace_l6 (pl : Int) h) FU (0, 0, 0)) (fun z => z = ((lyC N A g (lyS N A g pl).1 (lyS N A g pl).2 : Nat) : Int)) := by
    refine iter_up (fun i st => i ≤ pl + 1 ∧ st = (((lyS N A g i).1 : Int), ((lvI N A g i : Nat) : Int), (i : Int))) _ (pl + 1) (by omega) (fun i st hi hI => ?_) ⟨Nat.zero_le _, rfl⟩
    obtain ⟨-, rfl⟩ := hI
    unfold X12_atPlace_l6
    dsimp only
    simp only [w32_id (z := (pl : Int)) (by omega) (by omega), w32_id (z := (i : Int)) (by omega) (by omega)]
    refine OK_if (fun c => ?_) (fun c => ?_)
    · rw [OK_some, LQ_r]
      have : i = pl + 1 := by omega
      subst this
      unfold lvI
      rw [if_neg (by omega), lyS_s]
    · obtain ⟨k1, k2, k3, k4⟩ := lyS_g G h0 i (by omega)
      obtain ⟨c1, c2, c3, c4⟩ := lyC_g G (by omega) k3
      have lo : lOk N (lyS N A g i).1 (lyS N A g i).2 (lvI N A g i) := by
        unfold lvI
        rcases k4 with ⟨e1, e2⟩ | ⟨e1, e2, e3, e4⟩
        · rw [if_pos e1, e2]
          exact Or.inl ⟨rfl, rfl, rfl⟩
        · rw [if_neg (by omega)]
          exact Or.inr ⟨e2, e3, rfl, e4⟩
      have hVi : h 192 (10 * (lyS N A g i).1 + lvI N A g i) = (VV N A g (lyS N A g i).1 (lyS N A g i).2).1 := by
        rcases k4 with ⟨e1, e2⟩ | ⟨e1, e2, e3, e4⟩
        · unfold lvI
          rw [if_pos e1, e2]
          exact hV
        · unfold lvI
          rw [if_neg (by omega)]
          exact (T _ _ (by omega) k1 e3 e4).1
      have ch : iter (X12_atPlace_l11 (pl : Int) ((lyS N A g i).1 : Int) ((lvI N A g i : Nat) : Int) (i : Int) h) FU 0 = some ((lyC N A g (lyS N A g i).1 (lyS N A g i).2 : Nat) : Int) := by
        have key2 : OK (iter (X12_atPlace_l11 (pl : Int) ((lyS N A g i).1 : Int) ((lvI N A g i : Nat) : Int) (i : Int) h) FU 0) (fun z => z = ((lyC N A g (lyS N A g i).1 (lyS N A g i).2 : Nat) : Int)) := by
          refine iter_up (fun a st => a ≤ lyC N A g (lyS N A g i).1 (lyS N A g i).2 ∧ st = (a : Int)) _ (lyC N A g (lyS N A g i).1 (lyS N A g i).2) (by omega) (fun a st ha hI => ?_) ⟨Nat.zero_le _, rfl⟩
          obtain ⟨-, rfl⟩ := hI
          unfold X12_atPlace_l11
          rw [isNext_s G H k1 lo (p := a) (by omega) (fun q => T _ a (by have := or2_gt q; omega) (or2_lt k1 (by omega)) (by omega) (by rw [tb_or2, decide_eq_true rfl, Bool.or_true])) hVi, OK_bindE, OK_some]
          by_cases e : a = lyC N A g (lyS N A g i).1 (lyS N A g i).2
          · rw [if_pos (show mpV (cdV N A g (VV N A g) (lyS N A g i).1 (lyS N A g i).2 a) = (VV N A g (lyS N A g i).1 (lyS N A g i).2).1 by rw [e]; exact c2)]
            refine OK_gd (by decide) ?_
            rw [OK_some, LQ_r, e]
          · rw [if_neg (c4 a (by omega))]
            refine OK_gn (fun q => q rfl) ?_
            rw [OK_some, LQ_l]
            exact ⟨by omega, by omega, rfl⟩
        obtain ⟨z, ez, hz⟩ := OK_ex key2
        rw [ez, hz]
      rw [ch, OK_bindE, OK_some, OK_some, LQ_l, or2_i (by omega) (by omega)]
      refine ⟨by omega, by omega, ?_⟩
      unfold lvI
      rw [if_neg (by omega), lyS_s]
      rfl
  obtain ⟨z, ez, hz⟩ := OK_ex key
  obtain ⟨k1, k2, k3, k4⟩ := lyS_g G h0 pl (by omega)
  obtain ⟨c1, -, -, -⟩ := lyC_g G (by omega) k3
  unfold X12_atPlace
  rw [ez, hz, Option.bind_some, if_pos (inb_t (v := ((lyC N A g (lyS N A g pl).1 (lyS N A g pl).2 : Nat) : Int)) (n := 10) (by omega) (by omega) (by omega)), wtn (lyC N A g (lyS N A g pl).1 (lyS N A g pl).2) rfl (by omega), h189 _ c1]
theorem wkB_f (m : Hp) (k i : Nat) : wkB m k i = decide (m 161 i = (k : Int) ∧ (i : Int) ≠ -1) := by
  unfold wkB
  by_cases q : m 161 i = (k : Int)
  · rw [decide_eq_true q, decide_eq_true ⟨q, by omega⟩]
  · rw [decide_eq_false q, decide_eq_false (fun r => q r.1)]
theorem isOrd_s {x m : Hp} (S : SB m) (X : TX x m 28 8) (K : CKm m) {n P k : Nat} (O : ROp x m P) (hn : m 150 5 = (n : Int)) (hk : k < 8) : OK (X12_isOrdered (k : Int) m) (fun w => ((orY m n P k ∧ w.1 = 1 ∧ (∀ p, p < orN m n k → w.2 189 p = ((orM m n k p : Nat) : Int)) ∧ grM (orN m n k) (orA m n P k) (orG m n k) w.2 ∧ tbM (orN m n k) (orA m n P k) (orG m n k) w.2 1 ∧ w.2 192 0 = (orV m n P k).1 ∧ w.2 150 84 = (orV m n P k).1 ∧ w.2 150 85 = (((orV m n P k).2 : Nat) : Int)) ∨ (¬ orY m n P k ∧ w.1 = 0)) ∧ ∀ e j, ¬ cMO e j → w.2 e j = m e j) := by
  obtain ⟨⟨b2, b3, b4, b5⟩, -⟩ := id S
  obtain ⟨o1, o2, o3, o4⟩ := O
  unfold X12_isOrdered
  rw [OK_bindE]
  refine OK_mono (gatM_s (m0 := m) (n := n) (P := P) (k := k) (w := -1) (f := wkB m k) S X K (fun _ _ _ => rfl) hn (by omega) ⟨by decide, by decide⟩ (wkB_f m k) o1 o3 (fun q hq => (o4 q hq).2)) (fun z hz => ?_)
  obtain ⟨h1, hf⟩ := hz
  have cl : orN m n k ≤ n := cnBt_le (wkB m k) n
  rcases h1 with ⟨h1, h2, h3, h4⟩ | ⟨h1, h2⟩
  · have H : grM (orN m n k) (orA m n P k) (orG m n k) z.2 := h4
    obtain ⟨h78, -, -⟩ := id H
    have h1' : orN m n k ≤ 10 := h1
    have G : okG (orN m n k) (orA m n P k) (orG m n k) := gaV_ok (f := wkB m k) (n := n) S X K h1
    rw [h2]
    refine OK_gn (by decide) ?_
    simp only [h78, w32_id (z := ((orN m n k : Nat) : Int)) (by omega) (by omega)]
    refine OK_if (fun c => ?_) (fun c => ?_)
    · rw [OK_some]
      refine ⟨Or.inr ⟨fun q => ?_, rfl⟩, hf⟩
      have := q.1.1
      omega
    · rw [OK_bindE]
      refine OK_mono (laysM_s G H (by omega)) (fun w hw => ?_)
      obtain ⟨w1, ⟨w2, w3⟩, w4, w5, wf⟩ := hw
      have wo : ∀ e j, ¬ cMO e j → w.2 e j = m e j := fun e j q => by
        rw [wf e j (by unfold cMO at q; omega) (by unfold cMO at q; omega) (by unfold cMO at q; omega), hf e j q]
      rw [w1]
      by_cases d : (VV (orN m n k) (orA m n P k) (orG m n k) 0 10).2 = 0
      · rw [if_pos d]
        refine OK_gd rfl ?_
        rw [OK_some]
        exact ⟨Or.inr ⟨fun q => q.2 d, rfl⟩, wo⟩
      · rw [if_neg d]
        refine OK_gn (by decide) ?_
        rw [OK_some]
        refine ⟨Or.inl ⟨⟨⟨by omega, h1'⟩, d⟩, rfl, fun p hp => ?_, grM_cg (wf 150 78 (by decide) (by decide) (by omega)) (funext fun j => wf 190 j (by decide) (by decide) (by omega)) (funext fun j => wf 191 j (by decide) (by decide) (by omega)) H, w4, w5, w2, w3⟩, wo⟩
        dsimp only
        rw [wf 189 p (by decide) (by decide) (by omega)]
        exact h3 p hp
  · rw [h2]
    refine OK_gd rfl ?_
    rw [OK_some]
    refine ⟨Or.inr ⟨fun q => ?_, rfl⟩, hf⟩
    have := q.1.2
    have h1' : 10 < orN m n k := h1
    omega
