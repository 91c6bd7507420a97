theorem sg_2 : ∀ c : Fin 256, inSg 2 (c.val : Int) = true → isOp (c.val : Int) := by unfold isOp; decide +kernel
theorem sg_3 : ∀ c : Fin 256, inSg 3 (c.val : Int) = true → isOp (c.val : Int) := by unfold isOp; decide +kernel
theorem sg_1 : ∀ c : Fin 256, inSg 1 (c.val : Int) = true → isLt (c.val - 97) ∧ 97 ≤ c.val := by unfold isLt; decide +kernel
theorem sg_4 : ∀ c : Fin 256, inSg 4 (c.val : Int) = true ↔ (c.val = 60 ∨ c.val = 61 ∨ c.val = 62) := by decide +kernel
theorem sg_lt {n p a w : Nat} {B : Nat → Int} {h : Hp} (P : PX h n B p a) (hw : w < 10) (k : inSg w (B p) = true) : p < n := by
  have b := PX_B P p
  by_cases q : p < n
  · exact q
  · rw [b.2.2 (by omega), inSg_0 ⟨w, hw⟩] at k
    cases k
theorem expect_s {h : Hp} {n p a : Nat} {B : Nat → Int} {c : Int} (P : PX h n B p a) (hc : 1 ≤ c ∧ c ≤ 255) : OK (X6_expect c h) (fun h' => F1 h h' ∧ if B p = c then (p < n ∧ PX h' n B (p + 1) a ∧ ∀ j, h' 23 j = h 23 j ∧ h' 24 j = h 24 j) else (h' 18 4 = -1000 - (p : Int) ∧ -100000 ≤ -1000 - (p : Int) ∧ -1000 - (p : Int) < 0)) := by
  have b := PX_B P p
  have hf := P.1.2.2.1
  have hpn := P.2.1.2.1
  have hn := P.2.1.2.2.1
  have bl : ¬ B p = c → OK (X6_expect_j14 h) (fun h' => F1 h h' ∧ if B p = c then (p < n ∧ PX h' n B (p + 1) a ∧ ∀ j, h' 23 j = h 23 j ∧ h' 24 j = h 24 j) else (h' 18 4 = -1000 - (p : Int) ∧ -100000 ≤ -1000 - (p : Int) ∧ -1000 - (p : Int) < 0)) := by
    intro q
    unfold X6_expect_j14
    rw [OK_bindE]
    refine OK_mono (blame_s P (k := 1) (by omega)) (fun y hy => ?_)
    rw [OK_some, if_neg q]
    exact ⟨hy.1, hy.2.1, by omega, by omega⟩
  unfold X6_expect
  rw [next_s P, OK_bindE, OK_some, hf, w32_id (z := c) (by omega) (by omega)]
  by_cases k : p < n
  · rw [if_pos k, w32_id (by omega) (by omega)]
    refine OK_if (fun e => bl e) (fun e => ?_)
    refine OK_gn (fun q => q rfl) ?_
    rw [OK_some, if_pos (show B p = c by omega)]
    exact ⟨F1_up, k, PX_up P k, fun j => by rw [setH_o (by decide), setH_o (by decide)]; exact ⟨rfl, rfl⟩⟩
  · rw [if_neg k]
    have := b.2.2 (by omega)
    exact OK_gd (by rw [show w32 (-1) = -1 from rfl]; omega) (bl (by omega))
theorem expect_f {h : Hp} {c : Int} (hf : w32 (h 18 4) ≠ 0) : X6_expect c h = some h := by
  obtain ⟨r, er⟩ := next_tot h
  unfold X6_expect X6_expect_j14
  rw [er]
  show (if w32 r ≠ w32 c then (X6_blame 1 h).bind fun r2 => some r2 else if w32 (h 18 4) ≠ 0 then (X6_blame 1 h).bind fun r2 => some r2 else some (setH h 18 3 (h 18 3 + 1))) = _
  rw [blame_f hf, if_pos hf]
  by_cases c : w32 r ≠ w32 c
  · rw [if_pos c]
    rfl
  · rw [if_neg c]
    rfl
theorem flt_ne {h : Hp} {f : Int} (e : h 18 4 = f) (h1 : -100000 ≤ f) (h2 : f < 0) : w32 (h 18 4) ≠ 0 := by
  rw [e, w32_id (by omega) (by omega)]
  omega
noncomputable def glp (w : Nat) (sub : Hp → Option Hp) (x : Int × Hp) : Option ((Int × Hp) ⊕ Hp) := if w32 160 ≤ w32 x.1 then some (.inr x.2) else (X6_nextIsOf w x.2).bind fun r2 => if w32 r2 = 0 then some (.inr x.2) else (X6_next x.2).bind fun r3 => (sub (setH x.2 18 3 ((x.2 18 3) + 1))).bind fun r4 => (X10_add 19 r3 0 r4).bind fun r5 => some (.inl (x.1 + 1, r5))
theorem pL_s (B : Nat → Int) (w : Nat) (sub : Nat → PR) (k q : Nat) (v : Den) : pL B w sub (k + 1) q v = if inSg w (B q) = true then (match sub (q + 1) with | Sum.inl f => Sum.inl f | Sum.inr (r, u) => pL B w sub k r (vBin (B q) v u)) else Sum.inr (q, v) := rfl
theorem glp_T (rec : Nat → Int → Hp → Option Hp) (v : Int) : X6_readTerm_l5 rec v = glp 2 (rec 0 v) := rfl
theorem glp_S (rec : Nat → Int → Hp → Option Hp) (v : Int) : X6_readSum_l5 rec v = glp 3 (rec 1 v) := rfl
/-- what the loop leaves -/
def RLx (n : Nat) (B : Nat → Int) (nd a q0 c0 : Nat) (h : Hp) (r : PR) (h' : Hp) : Prop := F1 h h' ∧ match r with
  | .inl f => h' 18 4 = f ∧ -100000 ≤ f ∧ f < 0
  | .inr (q, v) => q0 ≤ q ∧ ∃ b, b + q0 ≤ c0 + q ∧ PX h' n B q b ∧ (∀ j, j < a → h' 23 j = h 23 j ∧ h' 24 j = h 24 j) ∧ XS (h' 23) (h' 24) a b nd v
theorem loop_x {w nd nd1 a q0 c0 n : Nat} {B : Nat → Int} {h : Hp} {sub : Hp → Option Hp} {sp : Nat → PR} {v0 : Den} (hw : w = 2 ∨ w = 3) (hsub : ∀ (p a : Nat) (h : Hp), PX h n B p a → a + 1 ≤ p → OK (sub h) (RX n B nd1 p a h (sp p))) (hnd : nd1 + 1 ≤ nd) (P : PX h n B q0 c0) (hac : a ≤ c0) (hc0 : c0 + 1 ≤ q0) (s0 : XS (h 23) (h 24) a c0 nd v0) : OK (iter (glp w sub) FU (0, h)) (RLx n B nd a q0 c0 h (pL B w sp 200 q0 v0)) := by
  refine iter_up (fun b s => b ≤ 160 ∧ ∃ h' : Hp, s = ((b : Int), h') ∧ F1 h h' ∧ ((∃ (q c : Nat) (v : Den), PX h' n B q c ∧ c + 1 ≤ q ∧ q0 + b ≤ q ∧ c + q0 ≤ c0 + q ∧ a ≤ c ∧ (∀ j, j < a → h' 23 j = h 23 j ∧ h' 24 j = h 24 j) ∧ XS (h' 23) (h' 24) a c nd v ∧ pL B w sp 200 q0 v0 = pL B w sp (200 - b) q v) ∨ (∃ f, h' 18 4 = f ∧ (-100000 ≤ f ∧ f < 0) ∧ pL B w sp 200 q0 v0 = .inl f))) _ 161 (by omega) (fun b s hb hI => ?_) ⟨by omega, h, rfl, F1_rf, Or.inl ⟨q0, c0, v0, P, hc0, by omega, by omega, hac, fun _ _ => ⟨rfl, rfl⟩, s0, rfl⟩⟩
  obtain ⟨hb1, h', rfl, fr, hh⟩ := hI
  unfold glp
  dsimp only
  simp only [w32_id (z := (b : Int)) (by omega) (by omega), show w32 160 = 160 from rfl]
  rcases hh with ⟨q, c, v, P', hc, hbq, hcq, hac', hpre, xs, ep⟩ | ⟨f, hf, hfb, ep⟩
  · have hqn := P'.2.1.2.1
    have hn := P'.2.1.2.2.1
    have bq := PX_B P' q
    refine OK_gn (by omega) ?_
    rw [nextIsOf_s P' (by omega), OK_bindE, OK_some]
    have e2 : 200 - b = (199 - b) + 1 := by omega
    rw [e2] at ep
    by_cases k : inSg w (B q) = true
    · have hq := sg_lt P' (by omega) k
      rw [if_pos k]
      refine OK_gn (by decide) ?_
      rw [next_s P', if_pos hq, OK_bindE, OK_some, OK_bindE]
      refine OK_mono (hsub (q + 1) c _ (PX_up P' hq) (by omega)) (fun g hg => ?_)
      obtain ⟨g1, g2⟩ := hg
      rw [pL_s B w sp (199 - b) q v, if_pos k] at ep
      have fr2 : F1 h g := F1_tr (F1_tr fr F1_up) g1
      cases er : sp (q + 1) with
      | inl f =>
        rw [er] at ep g2
        obtain ⟨g3, g4, g5⟩ := g2
        rw [OK_bindE]
        refine OK_mono add_f (fun y hy => ?_)
        rw [OK_some, LQ_l]
        exact ⟨by omega, by omega, y, rfl, F1_tr fr2 hy.1, Or.inr ⟨f, hy.2.trans g3, ⟨g4, g5⟩, ep⟩⟩
      | inr z =>
        obtain ⟨r, u⟩ := z
        rw [er] at ep g2
        obtain ⟨g3, b', g4, g5, g6, g7⟩ := g2
        have ho : isOp (B q) := by
          obtain ⟨cv, hcv⟩ := Int.eq_ofNat_of_zero_le bq.1
          rw [hcv] at k ⊢
          rcases hw with e | e
          · subst e
            exact sg_2 ⟨cv, by omega⟩ k
          · subst e
            exact sg_3 ⟨cv, by omega⟩ k
        have ho' := ho
        unfold isOp at ho'
        rw [OK_bindE]
        refine OK_mono (add_s g5 (k := B q) (o := 0) (by omega) (by omega) (by omega) (by omega) (by omega)) (fun y hy => ?_)
        obtain ⟨y1, y2, y3, y4, y5⟩ := hy
        rw [OK_some, LQ_l]
        have s7 := g7.1
        refine ⟨by omega, by omega, y, rfl, F1_tr fr2 y1, Or.inl ⟨r, b' + 1, vBin (B q) v u, y2, by omega, by omega, by omega, by omega, fun j hj => ?_, ?_, by rw [show 200 - (b + 1) = 199 - b by omega]; exact ep⟩⟩
        · have t1 := y3 j (by omega)
          have t2 := g6 j (by omega)
          have t3 := hpre j hj
          rw [setH_o (by decide), setH_o (by decide)] at t2
          exact ⟨t1.1.trans (t2.1.trans t3.1), t1.2.trans (t2.2.trans t3.2)⟩
        · have x1 : XS (y 23) (y 24) a c nd v := XS_cg (fun p h1 h2 => by
            have t1 := y3 p (by omega)
            have t2 := g6 p (by omega)
            rw [setH_o (by decide), setH_o (by decide)] at t2
            exact ⟨t1.1.trans t2.1, t1.2.trans t2.2⟩) xs
          have x2 : XS (y 23) (y 24) c b' nd1 u := XS_cg (fun p h1 h2 => y3 p h2) g7
          have x3 := XS_bin (q := b') x1 x2 (by rw [y4]; omega) ⟨Nat.le_refl _, hnd⟩
          rw [y4] at x3
          exact x3
    · rw [if_neg k]
      refine OK_gd (by decide) ?_
      rw [OK_some, LQ_r]
      have es : pL B w sp (199 - b + 1) q v = .inr (q, v) := if_neg k
      rw [es] at ep
      rw [ep]
      exact ⟨fr, by omega, c, by omega, P', hpre, xs⟩
  · have hne := flt_ne hf hfb.1 hfb.2
    have ex : LQ (fun s' => b < 161 ∧ b + 1 ≤ 160 ∧ ∃ h' : Hp, s' = (((b + 1 : Nat) : Int), h') ∧ F1 h h' ∧ ((∃ (q c : Nat) (v : Den), PX h' n B q c ∧ c + 1 ≤ q ∧ q0 + (b + 1) ≤ q ∧ c + q0 ≤ c0 + q ∧ a ≤ c ∧ (∀ j, j < a → h' 23 j = h 23 j ∧ h' 24 j = h 24 j) ∧ XS (h' 23) (h' 24) a c nd v ∧ pL B w sp 200 q0 v0 = pL B w sp (200 - (b + 1)) q v) ∨ (∃ f, h' 18 4 = f ∧ (-100000 ≤ f ∧ f < 0) ∧ pL B w sp 200 q0 v0 = .inl f))) (RLx n B nd a q0 c0 h (pL B w sp 200 q0 v0)) (Sum.inr h') := by
      rw [LQ_r, ep]
      exact ⟨fr, hf, hfb.1, hfb.2⟩
    refine OK_if (fun _ => ex) (fun _ => ?_)
    rw [nextIsOf_f hne, OK_bindE, OK_some]
    exact OK_gd (by decide) ex
