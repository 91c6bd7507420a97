/-! WHOSE: points of an author -/
def LHf (w nn t pr i y : Int) : Nat → Int := fun j => if j = 56 then y else if j = 46 then i else if j = 51 then pr else if j = 53 then t else if j = 50 then nn else if j = 54 then w else 0
theorem LHf_bd {w nn t pr i y : Int} (h1 : I32 w) (h2 : I32 nn) (h3 : I32 t) (h4 : I32 pr) (h5 : I32 i) (h6 : I32 y) : bdL (LHf w nn t pr i y) := by
  intro j _ _
  unfold LHf
  split
  · exact h6
  split
  · exact h5
  split
  · exact h4
  split
  · exact h3
  split
  · exact h2
  split
  · exact h1
  · decide
/-- the letters that the habit's text does not know -/
def RLh (x : Hp) : Prop := (∀ j, isLt j → j ≠ 8 → j ≠ 13 → j ≠ 15 → j ≠ 19 → j ≠ 22 → j ≠ 24 → x 42 j = 0) ∧ ∀ j, -2147483648 ≤ x 42 j ∧ x 42 j < 2147483648
theorem VTx_bd {x m : Hp} {t T : Nat} {hd : Int} {L : Nat → Int} (hT : T ≤ 10) (X : TX x m t T) (K : CKm m) (hb : bdL L) (hh : 0 ≤ hd ∧ hd ≤ 255) : -1000 ≤ VTx m T hd (-1000) 1000 L ∧ VTx m T hd (-1000) 1000 L ≤ 1000 := by
  have hb2 : bdL (mLt m L 150) := fun j h1 h2 => by
    rw [mLt_i h1 h2]
    exact hb j h1 h2
  obtain ⟨w, -, w1, w2, -⟩ := OK_ex (tells_v (m' := mLt m L) (lo := -1000) (hi := 1000) (hd := hd) hT X K (fun c h1 h2 => mLt_o (by omega)) hb2 hh (by decide) (by decide) (by decide))
  have e : VTx m T hd (-1000) 1000 (mLt m L 150) = VTx m T hd (-1000) 1000 L := VTx_cg (fun j h1 h2 => mLt_i h1 h2)
  rw [e] at w1
  omega
noncomputable def ptV (m : Hp) (s a n nk p : Nat) : Int := VTx m 9 104 (-1000) 1000 (LHf (m 165 (8 * s + p)) ((ofK m a (m 165 (8 * s + p)).toNat nk + ofB m s a (m 165 (8 * s + p)).toNat n : Nat) : Int) ((alK m a nk + alBu m s a n : Nat) : Int) (m 153 a) (p : Int) (m 152 a))
noncomputable def ptF (m : Hp) (s a n nk : Nat) : Nat → Int
  | 0 => 0
  | p + 1 => ptF m s a n nk p + ptV m s a n nk p
theorem ptF_s (m : Hp) (s a n nk p : Nat) : ptF m s a n nk (p + 1) = ptF m s a n nk p + ptV m s a n nk p := rfl
theorem ptL_bd {m : Hp} (S : SB m) {s a n nk p : Nat} (hp : p ≤ 8) (hn : n ≤ 40) (hnk : nk ≤ 8) : bdL (LHf (m 165 (8 * s + p)) ((ofK m a (m 165 (8 * s + p)).toNat nk + ofB m s a (m 165 (8 * s + p)).toNat n : Nat) : Int) ((alK m a nk + alBu m s a n : Nat) : Int) (m 153 a) (p : Int) (m 152 a)) := by
  obtain ⟨-, ⟨b152, b153, -, -⟩, -, -, ⟨-, b165⟩, -⟩ := id S
  have b1 := b165 (8 * s + p)
  have b2 := b152 a
  have b3 := b153 a
  obtain ⟨u1, u2⟩ := uses_b S s a (m 165 (8 * s + p)).toNat
  have v1 := u1 nk
  have v2 := u2 n
  exact LHf_bd ⟨by omega, by omega⟩ ⟨by omega, by omega⟩ ⟨by omega, by omega⟩ ⟨by omega, by omega⟩ ⟨by omega, by omega⟩ ⟨by omega, by omega⟩
theorem ptF_b {x m : Hp} (S : SB m) (X : TX x m 36 9) (K : CKm m) {s a n nk : Nat} (hn : n ≤ 40) (hnk : nk ≤ 8) : ∀ p : Nat, p ≤ 8 → -1000 * (p : Int) ≤ ptF m s a n nk p ∧ ptF m s a n nk p ≤ 1000 * (p : Int) := by
  intro p
  induction p with
  | zero => intro _; exact ⟨Int.le_refl _, Int.le_refl _⟩
  | succ p ih =>
    intro hp
    have := ih (by omega)
    have v := VTx_bd (T := 9) (hd := 104) (by decide) X K (ptL_bd S (s := s) (a := a) (n := n) (nk := nk) (p := p) (by omega) hn hnk) (by decide)
    rw [ptF_s]
    unfold ptV
    omega
def cXH (e j : Nat) : Prop := (e = 77 ∧ 3 ≤ j ∧ j ≤ 6) ∨ e = 78 ∨ e = 42 ∨ e = 43 ∨ (e = 36 ∧ (j = 9 ∨ j = 10))
theorem RS_cH {x z m : Hp} (hz : ∀ e j, ¬ cXH e j → z e j = x e j) (R : RS x m) : RS z m := RS_cg (fun a j h => hz a j (by unfold cXS at h; unfold cXH; omega)) (fun _ _ _ => rfl) R
theorem TX_cH {x z m : Hp} (hz : ∀ e j, ¬ cXH e j → z e j = x e j) (X : TX x m 36 9) : TX z m 36 9 := TX_cg (hz 36 0 (by unfold cXH; omega)) (fun i h1 h2 => funext fun j => hz _ j (by unfold cXH; omega)) (fun _ _ _ => rfl) X
theorem prior_e {v : Int} {h : Hp} (k : Nat) (e : v = (k : Int)) (hk : k < 8) : X7_prior v h = some (h 5 k) := by
  unfold X7_prior
  rw [at_e k e hk (by omega), Option.bind_some]
theorem authorYear_e {v : Int} {h : Hp} (k : Nat) (e : v = (k : Int)) (hk : k < 8) : X7_authorYear v h = some (h 4 k) := by
  unfold X7_authorYear
  rw [at_e k e hk (by omega), Option.bind_some]
theorem RLh_set {h : Hp} {j : Nat} {v : Int} (hj : j = 8 ∨ j = 13 ∨ j = 15 ∨ j = 19 ∨ j = 22 ∨ j = 24) (hv : I32 v) (W : RLh h) : RLh (setH h 42 j v) := by
  obtain ⟨w1, w2⟩ := W
  refine ⟨fun q q0 q1 q2 q3 q4 q5 q6 => ?_, fun q => ?_⟩
  · rw [setH_n (by omega)]
    exact w1 q q0 q1 q2 q3 q4 q5 q6
  · rw [setH_at]
    split
    · exact hv
    · exact w2 q
theorem ptsX_s {x m : Hp} (R : RS x m) (X : TX x m 36 9) (K : CKm m) (W : RLh x) {s a n nk : Nat} (hn : m 150 5 = (n : Int)) (hnk : m 150 3 = (nk : Int)) (ha : a < 8) (hs : s < n) : OK (X0_pointsFor (s : Int) (a : Int) x) (fun z => z.1 = ptF m s a n nk (m 164 s).toNat ∧ RLh z.2 ∧ ∀ e j, ¬ (e = 77 ∧ j = 3) → e ≠ 78 → e ≠ 42 → e ≠ 43 → ¬ (e = 36 ∧ (j = 9 ∨ j = 10)) → z.2 e j = x e j) := by
  obtain ⟨-, S⟩ := id R
  obtain ⟨⟨-, b3, b4, b5⟩, ⟨b152, b153, -, -⟩, -, -, ⟨b164, b165⟩, -⟩ := id S
  have c4 := b164 s
  have c2 := b152 a
  have c3 := b153 a
  obtain ⟨N, hN⟩ := Int.eq_ofNat_of_zero_le c4.1
  unfold X0_pointsFor
  rw [OK_bindE]
  refine OK_mono (usesX_s R hn hnk ha (by omega)) (fun g hg => ?_)
  obtain ⟨⟨gU, gT⟩, gf⟩ := hg
  have bu := uses_b S s a 0
  have bu1 := bu.1 nk
  have bu2 := bu.2 n
  have gx : ∀ e j, ¬ (e = 77 ∧ j = 3) → e ≠ 78 → g e j = x e j := fun e j q1 q2 => gf e j (fun r => by unfold cXU at r; omega)
  rw [let_s 19 (by decide) (by decide), OK_bindE, OK_some, prior_e a rfl ha, OK_bindE, OK_some, let_s 15 (by decide) (by decide), OK_bindE, OK_some, authorYear_e a rfl ha, OK_bindE, OK_some, let_s 24 (by decide) (by decide), OK_bindE, OK_some, gT]
  obtain ⟨⟨-, ⟨e4, e5, -⟩, -⟩, -⟩ := id R
  have r5 : (setH g (36 + 6) 19 ((alK m a nk + alBu m s a n : Nat) : Int)) 5 a = m 153 a := by rw [setH_o (by decide), gx 5 a (by omega) (by decide), e5]
  have r4 : (setH (setH g (36 + 6) 19 ((alK m a nk + alBu m s a n : Nat) : Int)) (36 + 6) 15 (m 153 a)) 4 a = m 152 a := by rw [setH_o (by decide), setH_o (by decide), gx 4 a (by omega) (by decide), e4]
  rw [r5, r4]
  have gW : RLh g := by
    unfold RLh at W ⊢
    rw [show g 42 = x 42 from funext fun j => gx 42 j (by omega) (by decide)]
    exact W
  generalize hg0 : setH (setH (setH g (36 + 6) 19 ((alK m a nk + alBu m s a n : Nat) : Int)) (36 + 6) 15 (m 153 a)) (36 + 6) 24 (m 152 a) = g0
  have W0 : RLh g0 := by
    rw [← hg0]
    exact RLh_set (by omega) ⟨by omega, by omega⟩ (RLh_set (by omega) ⟨by omega, by omega⟩ (RLh_set (by omega) ⟨by omega, by omega⟩ gW))
  have f0 : ∀ e j, e ≠ 42 → g0 e j = g e j := fun e j q => by rw [← hg0, setH_o q, setH_o q, setH_o q]
  have l19 : g0 42 19 = ((alK m a nk + alBu m s a n : Nat) : Int) := by rw [← hg0, setH_n (by decide), setH_n (by decide), setH_s]
  have l15 : g0 42 15 = m 153 a := by rw [← hg0, setH_n (by decide), setH_s]
  have l24 : g0 42 24 = m 152 a := by rw [← hg0, setH_s]
  rw [hN, tn, OK_bindE]
  refine OK_mono (iter_up (fun p st => p ≤ N ∧ ∃ h : Hp, st = (ptF m s a n nk p, (p : Int), h) ∧ RLh h ∧ (h 42 19 = ((alK m a nk + alBu m s a n : Nat) : Int) ∧ h 42 15 = m 153 a ∧ h 42 24 = m 152 a) ∧ (∀ e j, e ≠ 42 → e ≠ 43 → ¬ (e = 36 ∧ (j = 9 ∨ j = 10)) → h e j = g e j)) (fun z => z.1 = ptF m s a n nk N ∧ RLh z.2 ∧ ∀ e j, e ≠ 42 → e ≠ 43 → ¬ (e = 36 ∧ (j = 9 ∨ j = 10)) → z.2 e j = g e j) N (by omega) (fun p st hp hI => ?_) ⟨Nat.zero_le _, g0, rfl, W0, ⟨l19, l15, l24⟩, fun e j q1 q2 q3 => f0 e j q1⟩) (fun z hz => ?_)
  · obtain ⟨-, h, rfl, hW, ⟨h19, h15, h24⟩, hf⟩ := hI
    have hx : ∀ e j, ¬ cXH e j → h e j = x e j := fun e j q => by
      unfold cXH at q
      rw [hf e j (by omega) (by omega) (by omega), gx e j (by omega) (by omega)]
    have Rh : RS h m := RS_cH hx R
    have Xh : TX h m 36 9 := TX_cH hx X
    obtain ⟨⟨-, -, ⟨-, -, -, -, i16⟩, i17, -⟩, -⟩ := id Rh
    unfold X0_pointsFor_l30
    dsimp only
    rw [bitSize_e s rfl (by omega), OK_bindE, OK_some, i16]
    simp only [hN, w32_id (z := (N : Int)) (by omega) (by omega), w32_id (z := (p : Int)) (by omega) (by omega)]
    refine OK_if (fun c => ?_) (fun c => ?_)
    · rw [OK_some, LQ_r]
      have : p = N := by omega
      subst this
      exact ⟨rfl, hW, hf⟩
    · have b := b165 (8 * s + p)
      obtain ⟨w, hw⟩ := Int.eq_ofNat_of_zero_le b.1
      have bw := uses_b S s a w
      have bw1 := bw.1 nk
      have bw2 := bw.2 n
      have u78 : (setH h (36 + 6) 22 (m 165 (8 * s + p))) 78 w = ((ofK m a w nk + ofB m s a w n : Nat) : Int) := by
        rw [setH_o (by decide), hf 78 w (by decide) (by decide) (by omega)]
        exact gU w (by omega)
      rw [bitWord_e (8 * s + p) (by omega) (by omega), OK_bindE, OK_some, i17 s p (by omega) (by omega), let_s 22 (by decide) (by decide), OK_bindE, OK_some, at_e (a := 78) (n := 64) w hw (by omega) (by omega), OK_bindE, OK_some, u78, let_s 13 (by decide) (by decide), OK_bindE, OK_some, let_s 8 (by decide) (by decide), OK_bindE, OK_some]
      generalize hg3 : setH (setH (setH h (36 + 6) 22 (m 165 (8 * s + p))) (36 + 6) 13 ((ofK m a w nk + ofB m s a w n : Nat) : Int)) (36 + 6) 8 (p : Int) = g3
      have W3 : RLh g3 := by
        rw [← hg3]
        exact RLh_set (by omega) ⟨by omega, by omega⟩ (RLh_set (by omega) ⟨by omega, by omega⟩ (RLh_set (by omega) ⟨by omega, by omega⟩ hW))
      have f3 : ∀ e j, e ≠ 42 → g3 e j = h e j := fun e j q => by rw [← hg3, setH_o q, setH_o q, setH_o q]
      have X3 : TX g3 m 36 9 := TX_cg (f3 36 0 (by decide)) (fun i h1 h2 => funext fun j => f3 _ j (by omega)) (fun _ _ _ => rfl) Xh
      have k22 : g3 42 22 = m 165 (8 * s + p) := by rw [← hg3, setH_n (by decide), setH_n (by decide), setH_s]
      have k13 : g3 42 13 = ((ofK m a w nk + ofB m s a w n : Nat) : Int) := by rw [← hg3, setH_n (by decide), setH_s]
      have k8 : g3 42 8 = (p : Int) := by rw [← hg3, setH_s]
      have kn : ∀ j, j ≠ 8 → j ≠ 13 → j ≠ 22 → g3 42 j = h 42 j := fun j q1 q2 q3 => by rw [← hg3, setH_n q1, setH_n q2, setH_n q3]
      have LL : LT g3 (mLt m (LHf (m 165 (8 * s + p)) ((ofK m a (m 165 (8 * s + p)).toNat nk + ofB m s a (m 165 (8 * s + p)).toNat n : Nat) : Int) ((alK m a nk + alBu m s a n : Nat) : Int) (m 153 a) (p : Int) (m 152 a))) 36 := by
        have z := fun j (h0 : isLt j) (h1 : j ≠ 8) (h2 : j ≠ 13) (h3 : j ≠ 15) (h4 : j ≠ 19) (h5 : j ≠ 22) (h6 : j ≠ 24) => W3.1 j h0 h1 h2 h3 h4 h5 h6
        refine LT_of (t := 36) ?_ ?_ ?_ ?_ ?_ ?_ ?_ ?_ ?_ ?_ ?_ ?_ ?_ ?_ W3.2 (ptL_bd S (by omega) (by omega) (by omega))
        · exact z 1 (by unfold isLt; omega) (by decide) (by decide) (by decide) (by decide) (by decide) (by decide)
        · exact z 2 (by unfold isLt; omega) (by decide) (by decide) (by decide) (by decide) (by decide) (by decide)
        · exact k8
        · exact z 10 (by unfold isLt; omega) (by decide) (by decide) (by decide) (by decide) (by decide) (by decide)
        · exact z 11 (by unfold isLt; omega) (by decide) (by decide) (by decide) (by decide) (by decide) (by decide)
        · exact z 12 (by unfold isLt; omega) (by decide) (by decide) (by decide) (by decide) (by decide) (by decide)
        · show g3 42 13 = ((ofK m a (m 165 (8 * s + p)).toNat nk + ofB m s a (m 165 (8 * s + p)).toNat n : Nat) : Int)
          rw [k13, hw]
          rfl
        · show g3 42 15 = m 153 a
          rw [kn 15 (by decide) (by decide) (by decide), h15]
        · exact z 18 (by unfold isLt; omega) (by decide) (by decide) (by decide) (by decide) (by decide) (by decide)
        · show g3 42 19 = ((alK m a nk + alBu m s a n : Nat) : Int)
          rw [kn 19 (by decide) (by decide) (by decide), h19]
        · exact k22
        · exact z 23 (by unfold isLt; omega) (by decide) (by decide) (by decide) (by decide) (by decide) (by decide)
        · show g3 42 24 = m 152 a
          rw [kn 24 (by decide) (by decide) (by decide), h24]
        · exact z 25 (by unfold isLt; omega) (by decide) (by decide) (by decide) (by decide) (by decide) (by decide)
      rw [OK_bindE]
      refine OK_mono (value_v (T := 9) (hd := 104) (lo := -1000) (hi := 1000) (by decide) X3 K LL (by decide) (by decide) (by decide) (by decide)) (fun z hz => ?_)
      obtain ⟨z1, z2, z3⟩ := hz
      have z42 : z.2 42 = g3 42 := funext fun j => z3 42 j (by omega) (by omega)
      rw [OK_some, LQ_l]
      refine ⟨by omega, by omega, z.2, by rw [ptF_s, z1]; rfl, ?_, ⟨?_, ?_, ?_⟩, fun e j q1 q2 q3 => by rw [z3 e j q3 (by omega), f3 e j q1, hf e j q1 q2 q3]⟩
      · unfold RLh at W3 ⊢
        rw [z42]
        exact W3
      · rw [z42, kn 19 (by decide) (by decide) (by decide), h19]
      · rw [z42, kn 15 (by decide) (by decide) (by decide), h15]
      · rw [z42, kn 24 (by decide) (by decide) (by decide), h24]
  · rw [OK_some]
    exact ⟨hz.1, hz.2.1, fun e j q1 q2 q3 q4 q5 => by rw [hz.2.2 e j q3 q4 q5, gx e j q1 q2]⟩
def cMW (e j : Nat) : Prop := (e = 150 ∧ 44 ≤ j ∧ j ≤ 57) ∨ e = 180 ∨ e = 181 ∨ e = 194 ∨ e = 195
theorem ptsM_s {x m h : Hp} (S : SB m) (X : TX x m 36 9) (K : CKm m) {s a n nk na : Nat} (hn : m 150 5 = (n : Int)) (hnk : m 150 3 = (nk : Int)) (hna : m 150 2 = (na : Int)) (ha : a < na) (hs : s < n) (U : UWm na (fun a w => ofK m a w nk + ofB m s a w n) (fun a => alK m a nk + alBu m s a n) h) (hf : ∀ e j, ¬ cMW e j → h e j = m e j) : OK (X12_pointsFor (s : Int) (a : Int) h) (fun z => z.1 = ptF m s a n nk (m 164 s).toNat ∧ UWm na (fun a w => ofK m a w nk + ofB m s a w n) (fun a => alK m a nk + alBu m s a n) z.2 ∧ ∀ e j, ¬ cMW e j → z.2 e j = m e j) := by
  obtain ⟨⟨b2, b3, b4, b5⟩, ⟨b152, b153, -, -⟩, -, -, ⟨b164, b165⟩, -⟩ := id S
  have c4 := b164 s
  obtain ⟨N, hN⟩ := Int.eq_ofNat_of_zero_le c4.1
  unfold X12_pointsFor
  rw [hN, tn, OK_bindE]
  refine OK_mono (iter_up (fun p st => p ≤ N ∧ ∃ g : Hp, st = (ptF m s a n nk p, (p : Int), g) ∧ UWm na (fun a w => ofK m a w nk + ofB m s a w n) (fun a => alK m a nk + alBu m s a n) g ∧ ∀ e j, ¬ cMW e j → g e j = m e j) (fun z => z.1 = ptF m s a n nk N ∧ UWm na (fun a w => ofK m a w nk + ofB m s a w n) (fun a => alK m a nk + alBu m s a n) z.2 ∧ ∀ e j, ¬ cMW e j → z.2 e j = m e j) N (by omega) (fun p st hp hI => ?_) ⟨Nat.zero_le _, h, rfl, U, hf⟩) (fun z hz => by rw [OK_some]; exact hz)
  obtain ⟨-, g, rfl, gU, gf⟩ := hI
  unfold X12_pointsFor_l4
  dsimp only
  refine OK_gi (by omega) (by omega) (by omega) ?_
  simp only [wtn s rfl (by omega), gf 164 s (by unfold cMW; omega), hN, w32_id (z := (N : Int)) (by omega) (by omega), w32_id (z := (p : Int)) (by omega) (by omega)]
  refine OK_if (fun c => ?_) (fun c => ?_)
  · rw [OK_some, LQ_r]
    have : p = N := by omega
    subst this
    exact ⟨rfl, gU, gf⟩
  · obtain ⟨u, eu, -, u1, u2⟩ := clears_s (m := g) (b := 0) (c := 0) (n := 0)
    have b := b165 (8 * s + p)
    obtain ⟨w, hw⟩ := Int.eq_ofNat_of_zero_le b.1
    have uo : ∀ e j, ¬ (e = 150 ∧ 44 ≤ j ∧ j ≤ 57) → u e j = g e j := u1
    have u165 : u 165 (8 * s + p) = (w : Int) := by rw [uo _ _ (by omega), gf _ _ (by unfold cMW; omega), hw]
    have u194 : u 194 (64 * a + w) = ((ofK m a w nk + ofB m s a w n : Nat) : Int) := by rw [uo _ _ (by omega), (gU a ha).1 w (by omega)]
    have u195 : u 195 a = ((alK m a nk + alBu m s a n : Nat) : Int) := by rw [uo _ _ (by omega), (gU a ha).2]
    have u153 : u 153 a = m 153 a := by rw [uo _ _ (by omega), gf _ _ (by unfold cMW; omega)]
    have u152 : u 152 a = m 152 a := by rw [uo _ _ (by omega), gf _ _ (by unfold cMW; omega)]
    rw [eu, OK_bindE, OK_some]
    simp only [wtn (v := 8 * (s : Int) + (p : Int)) (8 * s + p) (by omega) (by omega), u165]
    refine OK_gi (by omega) (by omega) (by omega) (OK_gi (by omega) (by omega) (by omega) (OK_gi (by omega) (by omega) (by omega) (OK_gi (by omega) (by omega) (by omega) (OK_gi (by omega) (by omega) (by omega) ?_))))
    simp only [wtn (v := 64 * (a : Int) + (w : Int)) (64 * a + w) (by omega) (by omega), wtn a rfl (by omega), u194, u195, u153, u152]
    generalize hq : setH (setH (setH (setH (setH (setH u 150 54 (w : Int)) 150 50 ((ofK m a w nk + ofB m s a w n : Nat) : Int)) 150 53 ((alK m a nk + alBu m s a n : Nat) : Int)) 150 51 (m 153 a)) 150 46 (p : Int)) 150 56 (m 152 a) = q
    have qo : ∀ e j, ¬ (e = 150 ∧ 44 ≤ j ∧ j ≤ 57) → q e j = g e j := fun e j r => by rw [← hq, setH_f (by omega), setH_f (by omega), setH_f (by omega), setH_f (by omega), setH_f (by omega), setH_f (by omega), u1 e j r]
    have qL : ∀ j, 44 ≤ j → j ≤ 57 → q 150 j = LHf (m 165 (8 * s + p)) ((ofK m a (m 165 (8 * s + p)).toNat nk + ofB m s a (m 165 (8 * s + p)).toNat n : Nat) : Int) ((alK m a nk + alBu m s a n : Nat) : Int) (m 153 a) (p : Int) (m 152 a) j := fun j h1 h2 => by
      rw [← hq, hw]
      unfold LHf
      simp only [setH_at, true_and, u2 j h1 h2]
      rfl
    have hbq : bdL (q 150) := fun j h1 h2 => by
      rw [qL j h1 h2]
      exact ptL_bd S (by omega) (by omega) (by omega) j h1 h2
    have qm : ∀ c, 166 ≤ c → c ≤ 172 → q c = m c := fun c h1 h2 => funext fun j => by rw [qo c j (by omega), gf c j (by unfold cMW; omega)]
    rw [OK_bindE]
    refine OK_mono (tells_v (m' := q) (T := 9) (hd := 104) (lo := -1000) (hi := 1000) (by decide) X K qm hbq (by decide) (by decide) (by decide) (by decide)) (fun z hz => ?_)
    obtain ⟨z1, z2, z3⟩ := hz
    have ev : VTx m 9 104 (-1000) 1000 (q 150) = ptV m s a n nk p := VTx_cg qL
    rw [OK_some, LQ_l]
    refine ⟨by omega, by omega, z.2, by rw [ptF_s, z1, ev]; rfl, fun b hb => ?_, fun e j r => ?_⟩
    · rw [z3 194 (by decide) (by decide), z3 195 (by decide) (by decide)]
      refine ⟨fun y hy => ?_, ?_⟩
      · rw [qo _ _ (by omega)]
        exact (gU b hb).1 y hy
      · rw [qo _ _ (by omega)]
        exact (gU b hb).2
    · unfold cMW at r
      rw [z3 e (by omega) (by omega), qo e j (by omega), gf e j (by unfold cMW; omega)]
