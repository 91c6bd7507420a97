/-! A TEXT ON BOTH SIDES, and its value -/
def beA (x : Hp) (t j : Nat) : Nat := if j = 0 then 0 else (x (t + 3) (j - 1)).toNat
def TXc (x m : Hp) (t T j : Nat) : Prop := ∃ (b e a' b' e' : Nat) (vE vC : Den), (x (t + 1) j = m 167 (12 * T + j) ∧ 0 ≤ m 167 (12 * T + j) ∧ m 167 (12 * T + j) ≤ 255) ∧ (x (t + 2) j = (b : Int) ∧ x (t + 3) j = (e : Int)) ∧ (m 168 (12 * T + j) = (a' : Int) ∧ m 169 (12 * T + j) = (b' : Int) ∧ m 170 (12 * T + j) = (e' : Int)) ∧ (e ≤ 160 ∧ CKx (x (t + 4)) (x (t + 5)) e) ∧ (160 * T ≤ a' ∧ e' ≤ 160 * T + 160) ∧ (XS (x (t + 4)) (x (t + 5)) (beA x t j) b 16 vE ∧ XS (x (t + 4)) (x (t + 5)) b e 16 vC) ∧ MS (m 171) (m 172) a' b' vE False ∧ MS (m 171) (m 172) b' e' vC True
/-- text T of the model is the one at t -/
def TX (x m : Hp) (t T : Nat) : Prop := ∃ c : Nat, c ≤ 12 ∧ x t 0 = (c : Int) ∧ m 166 T = (c : Int) ∧ ∀ j, j < c → TXc x m t T j
/-- the letters of both -/
def LT (x m : Hp) (t : Nat) : Prop := (∀ j, isLt j → x (t + 6) j = lvM m (97 + (j : Int))) ∧ (∀ j, -2147483648 ≤ x (t + 6) j ∧ x (t + 6) j < 2147483648) ∧ (∀ c, -2147483648 ≤ lvM m c ∧ lvM m c < 2147483648)
theorem TX_cg {x m x' m' : Hp} {t T : Nat} (h0 : x' t 0 = x t 0) (hx : ∀ i, 1 ≤ i → i ≤ 5 → x' (t + i) = x (t + i)) (hm : ∀ c, 166 ≤ c → c ≤ 172 → m' c = m c) (X : TX x m t T) : TX x' m' t T := by
  obtain ⟨c, h1, h2, h3, h5⟩ := X
  refine ⟨c, h1, by rw [h0]; exact h2, by rw [hm 166 (by decide) (by decide)]; exact h3, fun j hj => ?_⟩
  have := h5 j hj
  unfold TXc beA at this ⊢
  rw [hx 1 (by decide) (by decide), hx 2 (by decide) (by decide), hx 3 (by decide) (by decide), hx 4 (by decide) (by decide), hx 5 (by decide) (by decide), hm 167 (by decide) (by decide), hm 168 (by decide) (by decide), hm 169 (by decide) (by decide), hm 170 (by decide) (by decide), hm 171 (by decide) (by decide), hm 172 (by decide) (by decide)]
  exact this
/-- what running leaves as it was -/
def XF (x h : Hp) (t : Nat) : Prop := ∀ c j, ¬ (c = t ∧ (j = 9 ∨ j = 10)) → c ≠ t + 7 → h c j = x c j
def MF (m h : Hp) : Prop := ∀ c, c ≠ 180 → c ≠ 181 → h c = m c
/-- a part of a text, run on both sides -/
theorem runX_s {x h : Hp} {t a e nd : Nat} {v : Den} (f : XF x h t) (ha : a ≤ e) (he : e ≤ 160) (hc : CKx (x (t + 4)) (x (t + 5)) e) (hl : ∀ j, -2147483648 ≤ x (t + 6) j ∧ x (t + 6) j < 2147483648) (s : XS (x (t + 4)) (x (t + 5)) a e nd v) (hn : nd ≤ 64) : OK (X10_run t (a : Int) (e : Int) h) (fun z => z.1 = (v (x (t + 6))).getD 0 ∧ XF x z.2 t) := by
  have k4 : h (t + 4) = x (t + 4) := funext fun j => f _ j (by omega) (by omega)
  have k5 : h (t + 5) = x (t + 5) := funext fun j => f _ j (by omega) (by omega)
  have k6 : h (t + 6) = x (t + 6) := funext fun j => f _ j (by omega) (by omega)
  refine OK_mono (run_s (x := h) (t := t) (a := a) (e := e) (by omega) he (by rw [k4, k5]; exact hc) (by rw [k6]; exact hl)) (fun z hz => ?_)
  rw [k4, k5, k6, xval_of s hn (by omega)] at hz
  exact ⟨hz.1, fun c j h1 h2 => (hz.2 c j h1 h2).trans (f c j h1 h2)⟩
theorem runM_s {x m h : Hp} {t a e : Nat} {v : Den} {C : Prop} (f : MF m h) (ha : a ≤ e) (he : e ≤ 1760) (hN : e - a ≤ 160) (hc : CKm m) (L : LT x m t) (s : MS (m 171) (m 172) a e v C) : OK (X12_reckons (a : Int) (e : Int) h) (fun w => MF m w ∧ (-2147483648 ≤ w 180 0 ∧ w 180 0 < 2147483648) ∧ ((w 181 0 = 0 ∧ v (x (t + 6)) = some (w 180 0)) ∨ (w 181 0 = 1 ∧ v (x (t + 6)) = none)) ∧ (C → w 180 0 = 0 ∨ w 180 0 = 1)) := by
  obtain ⟨l1, l2, l3⟩ := L
  have k171 : h 171 = m 171 := f 171 (by decide) (by decide)
  have k172 : h 172 = m 172 := f 172 (by decide) (by decide)
  have k150 : h 150 = m 150 := f 150 (by decide) (by decide)
  have kl : lvM h = lvM m := funext fun c => lvM_cg k150 c
  obtain ⟨z, r, q1, q2, q3⟩ := s.2 (m 171) (m 172) (fun _ _ _ => ⟨rfl, rfl⟩) (lvM m) (x (t + 6)) [] l1
  refine OK_mono (reckons_b (m := h) ha he hN (by unfold CKm; rw [k171, k172]; exact hc) (by rw [kl]; exact l3) (by rw [k171, k172, kl]; exact q1)) (fun w hw => ?_)
  obtain ⟨⟨⟨g1, g2⟩, -⟩, w2, w3⟩ := hw
  have e1 : w 180 0 = z := g1
  have e2 : w 181 0 = bI r := g2
  refine ⟨fun c h1 h2 => (w2 c h1 h2).trans (f c h1 h2), by rw [e1]; exact w3 (z, r) List.mem_cons_self, ?_, fun c => by rw [e1]; exact q3 c⟩
  rw [e1, e2]
  rcases q2 with ⟨e, h⟩ | ⟨e, h⟩
  · rw [e]
    exact Or.inl ⟨rfl, h⟩
  · rw [e]
    exact Or.inr ⟨rfl, h⟩
theorem value_b {x m : Hp} {t T : Nat} {hd lo hi : Int} (hT : T ≤ 10) (X : TX x m t T) (K : CKm m) (L : LT x m t) (hh : 0 ≤ hd ∧ hd ≤ 255) (hlo : -1000 ≤ lo) (hhi : hi ≤ 1000) (hlh : lo ≤ hi) : OK (X10_value t hd lo hi x) (fun z => OK (X12_tells (T : Int) hd lo hi m) (fun w => z.1 = w.1 ∧ ((lo ≤ w.1 ∧ w.1 ≤ hi) ∨ w.1 = 0) ∧ XF x z.2 t ∧ MF m w.2)) := by
  obtain ⟨c, hc, xc, mc, cl⟩ := X
  unfold X10_value X12_tells
  have I : OK (iter (X10_value_l4 t hd lo hi) FU (0, 0, x)) (fun z => OK (iter (X12_tells_l4 (T : Int) hd lo hi) FU (12 * (T : Int), m)) (fun w => (∃ hx hm, z = Sum.inr hx ∧ w = Sum.inr hm ∧ XF x hx t ∧ MF m hm) ∨ (∃ (j a : Nat) (b : Int) (hx hm : Hp), j < c ∧ a = beA x t j ∧ b = x (t + 2) j ∧ z = Sum.inl ((a : Int), b, hx) ∧ w = Sum.inl (((12 * T + j : Nat) : Int), hm) ∧ XF x hx t ∧ MF m hm))) := by
    refine iter_2 (fun p s q => p ≤ c ∧ ∃ (hx hm : Hp), s = ((beA x t p : Int), (p : Int), hx) ∧ q = (((12 * T + p : Nat) : Int), hm) ∧ XF x hx t ∧ MF m hm) _ c (by omega) (fun p s q hp hI => ?_) ⟨by omega, x, m, rfl, rfl, fun _ _ _ _ => rfl, fun _ _ _ => rfl⟩
    obtain ⟨-, hx, hm, rfl, rfl, fx, fm⟩ := hI
    have k0 : hx t 0 = (c : Int) := by rw [fx t 0 (by omega) (by omega)]; exact xc
    have k1 : hx (t + 1) = x (t + 1) := funext fun j => fx _ j (by omega) (by omega)
    have k2 : hx (t + 2) = x (t + 2) := funext fun j => fx _ j (by omega) (by omega)
    have k3 : hx (t + 3) = x (t + 3) := funext fun j => fx _ j (by omega) (by omega)
    have m166 : hm 166 = m 166 := fm 166 (by decide) (by decide)
    have m167 : hm 167 = m 167 := fm 167 (by decide) (by decide)
    have m169 : hm 169 = m 169 := fm 169 (by decide) (by decide)
    have m170 : hm 170 = m 170 := fm 170 (by decide) (by decide)
    unfold X10_value_l4 X12_tells_l4 X10_value_j41 X12_tells_j77
    (try dsimp only)
    simp only [k0, k1, k2, k3, m166, m167, m169, m170, tn, w32_id (z := (c : Int)) (by omega) (by omega), w32_id (z := (p : Int)) (by omega) (by omega), w32_id (z := (T : Int)) (by omega) (by omega), w32_id (z := ((12 * T + p : Nat) : Int)) (by omega) (by omega), mc, w32_id (z := 12 * (T : Int) + (c : Int)) (by omega) (by omega), if_inb (v := (T : Int)) (n := 11) (by omega) (by omega) (by omega), show w32 12 = 12 from rfl]
    by_cases q : p = c
    · refine OK_gd (by omega) ?_
      rw [OK_some]
      refine OK_gd (by omega) ?_
      rw [OK_some, LQ2_r]
      exact Or.inl ⟨hx, hm, rfl, rfl, fx, fm⟩
    · refine OK_gn (by omega) (OK_gn (by omega) ?_)
      obtain ⟨b, e, a', b', e', vE, vC, ⟨u1, u2, u3⟩, ⟨u4, u5⟩, ⟨u6, u7, u8⟩, ⟨u9, ck⟩, ⟨u10, u11⟩, ⟨u12, u13⟩, u14, u15⟩ := cl p (by omega)
      have s13 := u13.1
      have s14 := u14.1
      have s15 := u15.1
      have eA : beA x t (p + 1) = e := by
        unfold beA
        rw [if_neg (by omega), Nat.add_sub_cancel, u5]
        rfl
      have nxt : ∀ (hx' hm' : Hp), XF x hx' t → MF m hm' → LQ2 (fun s' q' => p < c ∧ p + 1 ≤ c ∧ ∃ (hx hm : Hp), s' = ((beA x t (p + 1) : Int), ((p + 1 : Nat) : Int), hx) ∧ q' = (((12 * T + (p + 1) : Nat) : Int), hm) ∧ XF x hx t ∧ MF m hm) (fun z w => (∃ hx hm, z = Sum.inr hx ∧ w = Sum.inr hm ∧ XF x hx t ∧ MF m hm) ∨ (∃ (j a : Nat) (b : Int) (hx hm : Hp), j < c ∧ a = beA x t j ∧ b = x (t + 2) j ∧ z = Sum.inl ((a : Int), b, hx) ∧ w = Sum.inl (((12 * T + j : Nat) : Int), hm) ∧ XF x hx t ∧ MF m hm)) (Sum.inl (x (t + 3) p, (p : Int) + 1, hx')) (Sum.inl (((12 * T + p : Nat) : Int) + 1, hm')) := by
        intro hx' hm' f1 f2
        rw [LQ2_l]
        exact ⟨by omega, by omega, hx', hm', by rw [eA, u5]; rfl, rfl, f1, f2⟩
      simp only [if_inb (v := (p : Int)) (n := 12) (by omega) (by omega) (by omega), if_inb (v := ((12 * T + p : Nat) : Int)) (n := 132) (by omega) (by omega) (by omega), u1, w32_id (z := m 167 (12 * T + p)) (by omega) (by omega), w32_id (z := hd) (by omega) (by omega)]
      by_cases kh : m 167 (12 * T + p) = hd
      · refine OK_gn (fun k => k kh) ?_
        obtain ⟨w, hw, f1, f2, f3, f4⟩ := OK_ex (runM_s (x := x) (t := t) fm s15 (by omega) (by omega) K L u15)
        rw [u4, u5, OK_bindE]
        refine OK_mono (runX_s fx s13 u9 ck L.2.1 u13 (by omega)) (fun r hr => ?_)
        obtain ⟨r1, r2⟩ := hr
        have f5 := f4 trivial
        have z0 : (w32 0).toNat = 0 := rfl
        have nx : ∀ y : Int, y = 0 → (w 181 0 = 1 ∨ (w 181 0 = 0 ∧ w 180 0 = 0)) → OK (if w32 y = 0 then some (Sum.inl ((e : Int), (p : Int) + 1, r.2)) else some (Sum.inr (Sum.inl ((beA x t p : Int), (b : Int), r.2)))) (fun a => OK (if 12 * (T : Int) + (c : Int) ≤ ((12 * T + p : Nat) : Int) then some (Sum.inr (Sum.inr hm)) else if m 167 (12 * T + p) = hd then (X12_reckons (m 169 (12 * T + p)) (m 170 (12 * T + p)) hm).bind fun r5 => if inb 0 200 then if w32 (r5 181 (w32 0).toNat) ≠ 0 then some (Sum.inl (((12 * T + p : Nat) : Int) + 1, r5)) else if inb 0 200 then if w32 (r5 180 (w32 0).toNat) = w32 1 then some (Sum.inr (Sum.inl (((12 * T + p : Nat) : Int), r5))) else some (Sum.inl (((12 * T + p : Nat) : Int) + 1, r5)) else none else none else some (Sum.inl (((12 * T + p : Nat) : Int) + 1, hm))) (fun b => LQ2 (fun s' q' => p < c ∧ p + 1 ≤ c ∧ ∃ (hx hm : Hp), s' = ((beA x t (p + 1) : Int), ((p + 1 : Nat) : Int), hx) ∧ q' = (((12 * T + (p + 1) : Nat) : Int), hm) ∧ XF x hx t ∧ MF m hm) (fun z w => (∃ hx hm, z = Sum.inr hx ∧ w = Sum.inr hm ∧ XF x hx t ∧ MF m hm) ∨ (∃ (j a : Nat) (b : Int) (hx hm : Hp), j < c ∧ a = beA x t j ∧ b = x (t + 2) j ∧ z = Sum.inl ((a : Int), b, hx) ∧ w = Sum.inl (((12 * T + j : Nat) : Int), hm) ∧ XF x hx t ∧ MF m hm)) a b)) := by
          intro y hy hw2
          rw [hy]
          refine OK_gd (by decide) ?_
          rw [OK_some]
          refine OK_gn (by omega) (OK_gd kh ?_)
          rw [u7, u8, hw, OK_bindE, OK_some]
          refine OK_gi (by omega) (by omega) (by omega) ?_
          rw [z0]
          have fin := nxt r.2 w r2 f1
          rw [u5] at fin
          rcases hw2 with h | ⟨h, h'⟩
          · rw [h]
            refine OK_gd (by decide) ?_
            rw [OK_some]
            exact fin
          · rw [h]
            refine OK_gn (fun q => q rfl) (OK_gi (by omega) (by omega) (by omega) ?_)
            rw [h']
            refine OK_gn (by decide) ?_
            rw [OK_some]
            exact fin
        rcases f3 with ⟨g1, g2⟩ | ⟨g1, g2⟩
        · rw [g2] at r1
          have er : r.1 = w 180 0 := r1
          rcases f5 with g3 | g3
          · exact nx _ (by omega) (Or.inr ⟨g1, g3⟩)
          · rw [er, g3]
            refine OK_gn (by decide) ?_
            rw [OK_some]
            refine OK_gn (by omega) (OK_gd kh ?_)
            rw [u7, u8, hw, OK_bindE, OK_some]
            refine OK_gi (by omega) (by omega) (by omega) ?_
            rw [z0, g1]
            refine OK_gn (fun q => q rfl) (OK_gi (by omega) (by omega) (by omega) ?_)
            rw [g3]
            refine OK_gd rfl ?_
            rw [OK_some, LQ2_r]
            exact Or.inr ⟨p, _, _, r.2, w, by omega, rfl, u4.symm, rfl, rfl, r2, f1⟩
        · rw [g2] at r1
          exact nx _ r1 (Or.inl g1)
      · refine OK_gd kh ?_
        rw [OK_some]
        refine OK_gn (by omega) (OK_gn kh ?_)
        rw [OK_some]
        exact nxt hx hm fx fm
  obtain ⟨z, hz, I2⟩ := OK_ex I
  obtain ⟨w, hw, I3⟩ := OK_ex I2
  rw [hz, hw]
  simp only [Option.bind_some]
  rcases I3 with ⟨hx, hm, rfl, rfl, fx, fm⟩ | ⟨j, a, b, hx, hm, hj, rfl, rfl, rfl, rfl, fx, fm⟩
  · exact ⟨rfl, Or.inr rfl, fx, fm⟩
  · obtain ⟨b, e, a', b', e', vE, vC, -, ⟨u4, u5⟩, ⟨u6, u7, u8⟩, ⟨u9, ck⟩, ⟨u10, u11⟩, ⟨u12, u13⟩, u14, u15⟩ := cl j hj
    have s12 := u12.1
    have s13 := u13.1
    have s14 := u14.1
    have s15 := u15.1
    have m168 : hm 168 = m 168 := fm 168 (by decide) (by decide)
    have m169 : hm 169 = m 169 := fm 169 (by decide) (by decide)
    obtain ⟨w, hw, f1, f2, f3, -⟩ := OK_ex (runM_s (x := x) (t := t) fm s14 (by omega) (by omega) K L u14)
    dsimp only
    rw [u4, OK_bindE]
    refine OK_mono (runX_s fx s12 (by omega) (fun p hp => ck p (by omega)) L.2.1 u12 (by omega)) (fun r hr => ?_)
    obtain ⟨r1, r2⟩ := hr
    simp only [if_inb (v := ((12 * T + j : Nat) : Int)) (n := 132) (by omega) (by omega) (by omega), wtn (v := ((12 * T + j : Nat) : Int)) (12 * T + j) rfl (by omega), m168, m169, u6, u7, hw, Option.bind_some, if_inb (v := 0) (n := 200) (by omega) (by omega) (by omega), show (w32 0).toNat = 0 from rfl, OK_some]
    have fin : ∀ v : Int, (-2147483648 ≤ v ∧ v < 2147483648) → r.1 = v → OK (X12_tells_j64 lo hi v w) (fun w' => minI hi (maxI lo r.1) = w'.1 ∧ ((lo ≤ w'.1 ∧ w'.1 ≤ hi) ∨ w'.1 = 0) ∧ XF x r.2 t ∧ MF m w'.2) := by
      intro v hv er
      unfold X12_tells_j64
      rw [er, maxI_id (by omega) (by omega) (by omega) (by omega), minI_id (by omega) (by omega) (by omega) (by omega), w32_id (z := lo) (by omega) (by omega), w32_id (z := hi) (by omega) (by omega), w32_id (z := v) (by omega) (by omega)]
      refine OK_if (fun k => OK_if (fun k2 => ?_) (fun k2 => ?_)) (fun k => ?_)
      · rw [OK_some]
        exact ⟨by show min hi (max lo v) = v; omega, Or.inl ⟨k, k2⟩, r2, f1⟩
      · rw [OK_some]
        exact ⟨by show min hi (max lo v) = hi; omega, Or.inl ⟨hlh, Int.le_refl _⟩, r2, f1⟩
      · rw [OK_some]
        exact ⟨by show min hi (max lo v) = lo; omega, Or.inl ⟨Int.le_refl _, hlh⟩, r2, f1⟩
    rcases f3 with ⟨g1, g2⟩ | ⟨g1, g2⟩
    · rw [g2] at r1
      rw [g1]
      exact OK_gd (by decide) (fin _ f2 r1)
    · rw [g2] at r1
      rw [g1]
      exact OK_gn (by decide) (fin 0 (by omega) r1)
