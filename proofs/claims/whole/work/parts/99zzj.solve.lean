/-! THE ORDER: what is kept of a search -/
def orN (m : Hp) (n k : Nat) : Nat := cnBt (wkB m k) n
def orM (m : Hp) (n k p : Nat) : Nat := mthF (wkB m k) p n
def orA (m : Hp) (n P k : Nat) : Nat → Nat → Bool := aheB m (orM m n k) (orN m n k) P
noncomputable def orG (m : Hp) (n k : Nat) : Nat → Nat → Int := gaV m (orM m n k) (orN m n k)
noncomputable def orV (m : Hp) (n P k : Nat) : Int × Nat := VV (orN m n k) (orA m n P k) (orG m n k) 0 10
def solX (x m : Hp) (n P k : Nat) : Prop := x 66 5 = ((orN m n k : Nat) : Int) ∧ (∀ p, p < orN m n k → p < 10 → x 69 p = ((orM m n k p : Nat) : Int)) ∧ ((¬ (1 ≤ orN m n k ∧ orN m n k ≤ 10) ∧ x 66 15 = 0) ∨ ((1 ≤ orN m n k ∧ orN m n k ≤ 10) ∧ grX (orN m n k) (orA m n P k) (orG m n k) x ∧ tbX (orN m n k) (orA m n P k) (orG m n k) x 1 ∧ x 66 14 = mpV (orV m n P k) ∧ x 66 15 = (((orV m n P k).2 : Nat) : Int) ∧ ((orV m n P k).2 ≠ 0 → ∀ i, i < orN m n k → x 74 i = ((lyC (orN m n k) (orA m n P k) (orG m n k) (lyS (orN m n k) (orA m n P k) (orG m n k) i).1 (lyS (orN m n k) (orA m n P k) (orG m n k) i).2 : Nat) : Int))))
def solC (x m : Hp) (n P k : Nat) : Prop := x 66 17 = 0 ∨ (x 66 17 = 1 ∧ ∀ l i, l < orN m n k → i < orN m n k → (w32 (and32 (ushr32 (x 76 l) (i : Int)) 1) = 0 ↔ ∀ t, brP (orN m n k) (orA m n P k) (orG m n k) t l → t.testBit i = true))
def RO (x m : Hp) (n P : Nat) : Prop := ROp x m P ∧ (x 66 16 = -1 ∨ ∃ k : Nat, k < 8 ∧ x 66 16 = (k : Int) ∧ solX x m n P k ∧ solC x m n P k)
/-- whether there is an order -/
def orY (m : Hp) (n P k : Nat) : Prop := (1 ≤ orN m n k ∧ orN m n k ≤ 10) ∧ (orV m n P k).2 ≠ 0
theorem solveX_s {x m : Hp} (R : RS x m) (X : TX x m 28 8) (K : CKm m) (W : RLp x) {n P k : Nat} (O : RO x m n P) (hn : m 150 5 = (n : Int)) (hk : k < 8) : OK (X5_solve (k : Int) x) (fun z => ((orY m n P k ∧ z.1 = 1) ∨ (¬ orY m n P k ∧ z.1 = 0)) ∧ RO z.2 m n P ∧ (z.2 66 16 = (k : Int) ∧ solX z.2 m n P k ∧ solC z.2 m n P k) ∧ RLp z.2 ∧ ∀ e j, ¬ cXP e j → z.2 e j = x e j) := by
  obtain ⟨-, S⟩ := id R
  obtain ⟨⟨b2, b3, b4, b5⟩, -, -, -, -, ⟨bb, -⟩⟩ := id S
  obtain ⟨o1, o2⟩ := id O
  have fin : ∀ h : Hp, h 66 16 = (k : Int) → solX h m n P k → solC h m n P k → RLp h → ROp h m P → (∀ e j, ¬ cXP e j → h e j = x e j) → OK (X5_solve_j15 h) (fun z => ((orY m n P k ∧ z.1 = 1) ∨ (¬ orY m n P k ∧ z.1 = 0)) ∧ RO z.2 m n P ∧ (z.2 66 16 = (k : Int) ∧ solX z.2 m n P k ∧ solC z.2 m n P k) ∧ RLp z.2 ∧ ∀ e j, ¬ cXP e j → z.2 e j = x e j) := by
    intro h h1 h2 h3 h4 h5 h6
    obtain ⟨s1, s2, s3⟩ := id h2
    unfold X5_solve_j15
    rcases s3 with ⟨s4, s5⟩ | ⟨s4, s5, s6, s7, s8, s9⟩
    · rw [s5]
      refine OK_gd (by decide) ?_
      rw [OK_some]
      exact ⟨Or.inr ⟨fun q => s4 q.1, rfl⟩, ⟨h5, Or.inr ⟨k, hk, h1, h2, h3⟩⟩, ⟨h1, h2, h3⟩, h4, h6⟩
    · have G : okG (orN m n k) (orA m n P k) (orG m n k) := gaV_ok (f := wkB m k) (n := n) S X K s4.2
      have vb := VV_bd G 0 10
      have vb' : (orV m n P k).2 ≤ 3628800 := vb.2.2
      simp only [s8, w32_id (z := (((orV m n P k).2 : Nat) : Int)) (by omega) (by omega)]
      refine OK_if (fun c => ?_) (fun c => ?_)
      · rw [OK_some]
        exact ⟨Or.inr ⟨fun q => q.2 (by omega), rfl⟩, ⟨h5, Or.inr ⟨k, hk, h1, h2, h3⟩⟩, ⟨h1, h2, h3⟩, h4, h6⟩
      · rw [OK_some]
        exact ⟨Or.inl ⟨⟨s4, by omega⟩, rfl⟩, ⟨h5, Or.inr ⟨k, hk, h1, h2, h3⟩⟩, ⟨h1, h2, h3⟩, h4, h6⟩
  unfold X5_solve
  have r16 : -1 ≤ x 66 16 ∧ x 66 16 < 8 := by
    rcases o2 with q | ⟨k', q1, q2, -⟩ <;> omega
  simp only [w32_id (z := x 66 16) (by omega) (by omega), w32_id (z := (k : Int)) (by omega) (by omega)]
  refine OK_if (fun c => ?_) (fun c => ?_)
  · rcases o2 with q | ⟨k', q1, q2, q3, q4⟩
    · omega
    · have : k' = k := by omega
      subst this
      exact fin x c q3 q4 W o1 (fun _ _ _ => rfl)
  · generalize hx0 : setH (setH x 66 16 (k : Int)) 66 17 0 = x0
    have x0f : ∀ e j, ¬ (e = 66 ∧ (j = 16 ∨ j = 17)) → x0 e j = x e j := fun e j q => by rw [← hx0, setH_f (by omega), setH_f (by omega)]
    have x16 : x0 66 16 = (k : Int) := by rw [← hx0, setH_n (by decide), setH_s]
    have x17 : x0 66 17 = 0 := by rw [← hx0, setH_s]
    have x0c : ∀ e j, ¬ cXP e j → x0 e j = x e j := fun e j q => by
      unfold cXP at q
      exact x0f e j (by omega)
    have R0 : RS x0 m := RS_cP x0c R
    have O0 : ROp x0 m P := by
      obtain ⟨p1, p2, p3, p4⟩ := o1
      exact ⟨p1, by rw [x0f 66 2 (by omega), p2], p3, fun q hq => by rw [x0f 67 q (by omega), x0f 68 q (by omega)]; exact p4 q hq⟩
    rw [OK_bindE]
    refine OK_mono (gatX_s R0 O0 hn (by omega)) (fun g hg => ?_)
    obtain ⟨g5, g69, g70, gf⟩ := hg
    have gc : ∀ e j, ¬ cXP e j → g e j = x e j := fun e j q => by
      unfold cXP at q
      rw [gf e j (by omega) (by omega) (by omega), x0f e j (by omega)]
    have O1 : ∀ h : Hp, (∀ e j, ¬ cXP e j → h e j = x e j) → ROp h m P := fun h hh => by
      obtain ⟨p1, p2, p3, p4⟩ := o1
      exact ⟨p1, by rw [hh 66 2 (by unfold cXP; omega), p2], p3, fun q hq => by rw [hh 67 q (by unfold cXP; omega), hh 68 q (by unfold cXP; omega)]; exact p4 q hq⟩
    have cl := cnBt_le (wkB m k) n
    have g34 : ∀ h : Hp, h 34 = g 34 → RLp h := fun h hh => RLp_cg (fun j => Or.inr (by rw [hh, gf 34 j (by omega) (by decide) (by decide), x0f 34 j (by omega)])) W
    have g5' : g 66 5 = ((orN m n k : Nat) : Int) := g5
    have oN : orN m n k ≤ n := cl
    -- no order for want of the right size
    have out : ¬ (1 ≤ orN m n k ∧ orN m n k ≤ 10) → OK (X5_solve_j15 (setH (setH g 66 14 (-1000000)) 66 15 0)) (fun z => ((orY m n P k ∧ z.1 = 1) ∨ (¬ orY m n P k ∧ z.1 = 0)) ∧ RO z.2 m n P ∧ (z.2 66 16 = (k : Int) ∧ solX z.2 m n P k ∧ solC z.2 m n P k) ∧ RLp z.2 ∧ ∀ e j, ¬ cXP e j → z.2 e j = x e j) := by
      intro hno
      have f2 : ∀ e j, ¬ cXP e j → (setH (setH g 66 14 (-1000000)) 66 15 0) e j = x e j := fun e j q => by
        rw [setH_f (by unfold cXP at q; omega), setH_f (by unfold cXP at q; omega), gc e j q]
      refine fin _ ?_ ⟨?_, fun p p1 p2 => ?_, Or.inl ⟨hno, by rw [setH_s]⟩⟩ (Or.inl ?_) (g34 _ ?_) (O1 _ f2) f2
      · rw [setH_n (by decide), setH_n (by decide), gf 66 16 (by omega) (by decide) (by decide), x16]
      · rw [setH_n (by decide), setH_n (by decide), g5']
      · rw [setH_o (by decide), setH_o (by decide)]
        exact g69 p p1 p2
      · rw [setH_n (by decide), setH_n (by decide), gf 66 17 (by omega) (by decide) (by decide), x17]
      · funext j
        rw [setH_o (by decide), setH_o (by decide)]
    unfold X5_search
    rw [g5']
    simp only [w32_id (z := ((orN m n k : Nat) : Int)) (by omega) (by omega), show w32 1 = 1 from rfl, show w32 10 = 10 from rfl]
    rw [OK_bindE]
    refine OK_if (fun d => ?_) (fun d => OK_if (fun d2 => ?_) (fun d2 => ?_))
    · rw [OK_some]
      exact out (by omega)
    · have sz : 1 ≤ orN m n k ∧ orN m n k ≤ 10 := by omega
      have G : okG (orN m n k) (orA m n P k) (orG m n k) := gaV_ok (f := wkB m k) (n := n) S X K sz.2
      have p0 := Nat.one_le_two_pow (n := orN m n k)
      generalize hy : setH (setH g 66 14 (-1000000)) 66 15 0 = y
      have yf : ∀ e j, ¬ (e = 66 ∧ (j = 14 ∨ j = 15)) → y e j = g e j := fun e j q => by rw [← hy, setH_f (by omega), setH_f (by omega)]
      have yc : ∀ e j, ¬ cXP e j → y e j = x e j := fun e j q => by
        rw [yf e j (by unfold cXP at q; omega), gc e j q]
      rw [OK_bindE]
      refine OK_mono (gainsX_s (N := orN m n k) (mem := orM m n k) (RS_cP yc R) (TX_cP yc X) K (g34 y (funext fun j => yf 34 j (by omega))) sz.2 (by rw [yf 66 5 (by omega), g5']) (fun p hp => by rw [yf 69 p (by omega)]; exact g69 p hp (by omega)) (fun p hp => by have := (mthF_m n hp).2; unfold orM; omega)) (fun u hu => ?_)
      obtain ⟨u71, uW, uf⟩ := hu
      have H : grX (orN m n k) (orA m n P k) (orG m n k) u := ⟨by rw [uf 66 5 (by decide) (by decide) (by decide) (by omega), yf 66 5 (by omega), g5'], fun p hp => by rw [uf 70 p (by decide) (by decide) (by decide) (by omega), yf 70 p (by omega)]; exact g70 sz.2 p hp, u71⟩
      have uc : ∀ e j, ¬ cXP e j → u e j = x e j := fun e j q => by
        rw [uf e j (by unfold cXP at q; omega) (by unfold cXP at q; omega) (by unfold cXP at q; omega) (by unfold cXP at q; omega), yc e j q]
      rw [OK_bindE]
      refine OK_mono (loops_s G H sz.1) (fun t ht => ?_)
      obtain ⟨tT, tf⟩ := ht
      have Ht : grX (orN m n k) (orA m n P k) (orG m n k) t := grX_cg (tf 66 5 (by decide) (by decide)) (funext fun j => tf 70 j (by decide) (by decide)) (funext fun j => tf 71 j (by decide) (by decide)) H
      have cs := complete_s G Ht (s := 0) (l := 10) (v := -1) (by omega) sz.1 rfl (Or.inr rfl) (fun q => absurd rfl q) (fun p hp hpb => tT _ p (by have := or2_gt hpb; omega) (or2_lt (by omega) hp) hp (by rw [tb_or2, decide_eq_true rfl, Bool.or_true]))
      rw [if_pos rfl, show ((0 : Nat) : Int) = 0 from rfl] at cs
      rw [cs, OK_bindE, OK_some]
      have eV : VV (orN m n k) (orA m n P k) (orG m n k) 0 10 = orV m n P k := rfl
      rw [eV]
      generalize hw : setH (setH t 66 14 (mpV (orV m n P k))) 66 15 (((orV m n P k).2 : Nat) : Int) = w
      have wf : ∀ e j, ¬ (e = 66 ∧ (j = 14 ∨ j = 15)) → w e j = t e j := fun e j q => by rw [← hw, setH_f (by omega), setH_f (by omega)]
      have w14 : w 66 14 = mpV (orV m n P k) := by rw [← hw, setH_n (by decide), setH_s]
      have w15 : w 66 15 = (((orV m n P k).2 : Nat) : Int) := by rw [← hw, setH_s]
      have Hw : grX (orN m n k) (orA m n P k) (orG m n k) w := grX_cg (wf 66 5 (by omega)) (funext fun j => wf 70 j (by omega)) (funext fun j => wf 71 j (by omega)) Ht
      have wT : tbX (orN m n k) (orA m n P k) (orG m n k) w 1 := fun s a q1 q2 q3 q4 => by
        rw [wf 72 _ (by omega), wf 73 _ (by omega)]
        exact tT s a q1 q2 q3 q4
      have wc : ∀ e j, ¬ cXP e j → w e j = x e j := fun e j q => by
        rw [wf e j (by unfold cXP at q; omega), tf e j (by unfold cXP at q; omega) (by unfold cXP at q; omega), uc e j q]
      have w16 : w 66 16 = (k : Int) := by rw [wf 66 16 (by omega), tf 66 16 (by decide) (by decide), uf 66 16 (by decide) (by decide) (by decide) (by omega), yf 66 16 (by omega), gf 66 16 (by omega) (by decide) (by decide), x16]
      have w17 : w 66 17 = 0 := by rw [wf 66 17 (by omega), tf 66 17 (by decide) (by decide), uf 66 17 (by decide) (by decide) (by decide) (by omega), yf 66 17 (by omega), gf 66 17 (by omega) (by decide) (by decide), x17]
      have w69 : ∀ p, p < orN m n k → p < 10 → w 69 p = ((orM m n k p : Nat) : Int) := fun p p1 p2 => by
        rw [wf 69 p (by omega), tf 69 p (by decide) (by decide), uf 69 p (by decide) (by decide) (by decide) (by omega), yf 69 p (by omega)]
        exact g69 p p1 p2
      have wW : RLp w := RLp_cg (fun j => Or.inr (by rw [wf 34 j (by omega), tf 34 j (by decide) (by decide)])) uW
      have vb := VV_bd G 0 10
      have vb' : (orV m n P k).2 ≤ 3628800 := vb.2.2
      simp only [w15, w32_id (z := (((orV m n P k).2 : Nat) : Int)) (by omega) (by omega)]
      refine OK_if (fun e => ?_) (fun e => ?_)
      · rw [OK_some]
        exact fin w w16 ⟨Hw.1, w69, Or.inr ⟨sz, Hw, wT, w14, w15, fun q => absurd (by omega) q⟩⟩ (Or.inl w17) wW (O1 w wc) wc
      · have h0 : (VV (orN m n k) (orA m n P k) (orG m n k) 0 10).2 ≠ 0 := by rw [eV]; omega
        have m14 : mpV (orV m n P k) = (VV (orN m n k) (orA m n P k) (orG m n k) 0 10).1 := by
          unfold mpV
          rw [if_neg (by omega), eV]
        rw [OK_bindE]
        refine OK_mono (lay_s G Hw wT h0 (by rw [w14, m14])) (fun v hv => ?_)
        obtain ⟨v74, vf⟩ := hv
        rw [OK_some]
        have vc : ∀ e j, ¬ cXP e j → v e j = x e j := fun e j q => by
          rw [vf e j (by unfold cXP at q; omega), wc e j q]
        refine fin v (by rw [vf 66 16 (by decide), w16]) ⟨by rw [vf 66 5 (by decide)]; exact Hw.1, fun p p1 p2 => by rw [vf 69 p (by decide)]; exact w69 p p1 p2, Or.inr ⟨sz, grX_cg (vf 66 5 (by decide)) (funext fun j => vf 70 j (by decide)) (funext fun j => vf 71 j (by decide)) Hw, fun s a q1 q2 q3 q4 => by rw [vf 72 _ (by decide), vf 73 _ (by decide)]; exact wT s a q1 q2 q3 q4, by rw [vf 66 14 (by decide), w14], by rw [vf 66 15 (by decide), w15], fun _ => v74⟩⟩ (Or.inl (by rw [vf 66 17 (by decide), w17])) (RLp_cg (fun j => Or.inr (vf 34 j (by decide))) wW) (O1 v vc) vc
    · rw [OK_some]
      exact out (by omega)
