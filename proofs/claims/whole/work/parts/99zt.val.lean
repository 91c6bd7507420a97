/-! the value of a text as a function of its letters -/
def mLt (m : Hp) (L : Nat → Int) : Hp := fun c j => if c = 150 ∧ 44 ≤ j ∧ j ≤ 57 then L j else m c j
def bdL (L : Nat → Int) : Prop := ∀ j, 44 ≤ j → j ≤ 57 → -2147483648 ≤ L j ∧ L j < 2147483648
noncomputable def VTx (m : Hp) (T : Nat) (hd lo hi : Int) (L : Nat → Int) : Int := ((X12_tells (T : Int) hd lo hi (mLt m L)).getD (0, m)).1
theorem mLt_o {m : Hp} {L : Nat → Int} {c : Nat} (h : c ≠ 150) : mLt m L c = m c := funext fun j => if_neg (fun q => h q.1)
theorem mLt_i {m : Hp} {L : Nat → Int} {j : Nat} (h1 : 44 ≤ j) (h2 : j ≤ 57) : mLt m L 150 j = L j := if_pos ⟨rfl, h1, h2⟩
theorem mLt_cg {m : Hp} {L L' : Nat → Int} (h : ∀ j, 44 ≤ j → j ≤ 57 → L j = L' j) : mLt m L = mLt m L' := by
  funext c j
  unfold mLt
  by_cases q : c = 150 ∧ 44 ≤ j ∧ j ≤ 57
  · rw [if_pos q, if_pos q, h j q.2.1 q.2.2]
  · rw [if_neg q, if_neg q]
theorem VTx_cg {m : Hp} {T : Nat} {hd lo hi : Int} {L L' : Nat → Int} (h : ∀ j, 44 ≤ j → j ≤ 57 → L j = L' j) : VTx m T hd lo hi L = VTx m T hd lo hi L' := by
  unfold VTx
  rw [mLt_cg h]
theorem lvM_L (m m' : Hp) (c : Int) : lvM (mLt m (m' 150)) c = lvM m' c := by
  obtain ⟨e44, e45, e46, e47, e48, e49, e50, e51, e52, e53, e54, e55, e56, e57⟩ : mLt m (m' 150) 150 44 = m' 150 44 ∧ mLt m (m' 150) 150 45 = m' 150 45 ∧ mLt m (m' 150) 150 46 = m' 150 46 ∧ mLt m (m' 150) 150 47 = m' 150 47 ∧ mLt m (m' 150) 150 48 = m' 150 48 ∧ mLt m (m' 150) 150 49 = m' 150 49 ∧ mLt m (m' 150) 150 50 = m' 150 50 ∧ mLt m (m' 150) 150 51 = m' 150 51 ∧ mLt m (m' 150) 150 52 = m' 150 52 ∧ mLt m (m' 150) 150 53 = m' 150 53 ∧ mLt m (m' 150) 150 54 = m' 150 54 ∧ mLt m (m' 150) 150 55 = m' 150 55 ∧ mLt m (m' 150) 150 56 = m' 150 56 ∧ mLt m (m' 150) 150 57 = m' 150 57 := ⟨mLt_i (by decide) (by decide), mLt_i (by decide) (by decide), mLt_i (by decide) (by decide), mLt_i (by decide) (by decide), mLt_i (by decide) (by decide), mLt_i (by decide) (by decide), mLt_i (by decide) (by decide), mLt_i (by decide) (by decide), mLt_i (by decide) (by decide), mLt_i (by decide) (by decide), mLt_i (by decide) (by decide), mLt_i (by decide) (by decide), mLt_i (by decide) (by decide), mLt_i (by decide) (by decide)⟩
  unfold lvM
  rw [e44, e45, e46, e47, e48, e49, e50, e51, e52, e53, e54, e55, e56, e57]
noncomputable def xLt (x m' : Hp) (t : Nat) : Hp := fun c j => if c = t + 6 then lvM m' (97 + (j : Int)) else x c j
theorem xLt_o {x m' : Hp} {t c : Nat} (h : c ≠ t + 6) : xLt x m' t c = x c := funext fun j => if_neg h
theorem xLt_i {x m' : Hp} {t j : Nat} : xLt x m' t (t + 6) j = lvM m' (97 + (j : Int)) := if_pos rfl
/-- what the model's text tells hangs on its letters alone -/
theorem tells_v {x m m' : Hp} {t T : Nat} {hd lo hi : Int} (hT : T ≤ 10) (X : TX x m t T) (K : CKm m) (hm : ∀ c, 166 ≤ c → c ≤ 172 → m' c = m c) (hb : bdL (m' 150)) (hh : 0 ≤ hd ∧ hd ≤ 255) (hlo : -1000 ≤ lo) (hhi : hi ≤ 1000) (hlh : lo ≤ hi) : OK (X12_tells (T : Int) hd lo hi m') (fun w => w.1 = VTx m T hd lo hi (m' 150) ∧ ((lo ≤ w.1 ∧ w.1 ≤ hi) ∨ w.1 = 0) ∧ MF m' w.2) := by
  have hlv : ∀ c, -2147483648 ≤ lvM m' c ∧ lvM m' c < 2147483648 := fun c => lv_b hb c
  have kk : ∀ g : Hp, (∀ c, 166 ≤ c → c ≤ 172 → g c = m c) → CKm g := fun g hg => by
    unfold CKm at K ⊢
    rw [hg 171 (by decide) (by decide), hg 172 (by decide) (by decide)]
    exact K
  have X1 : TX (xLt x m' t) m' t T := TX_cg (by rw [xLt_o (by omega)]) (fun i h1 h2 => xLt_o (by omega)) (fun c h1 h2 => hm c h1 h2) X
  have g2 : ∀ c, 166 ≤ c → c ≤ 172 → mLt m (m' 150) c = m c := fun c h1 h2 => mLt_o (by omega)
  have X2 : TX (xLt x m' t) (mLt m (m' 150)) t T := TX_cg (by rw [xLt_o (by omega)]) (fun i h1 h2 => xLt_o (by omega)) g2 X
  have L1 : LT (xLt x m' t) m' t := ⟨fun j _ => xLt_i, fun j => by rw [xLt_i]; exact hlv _, hlv⟩
  have L2 : LT (xLt x m' t) (mLt m (m' 150)) t := ⟨fun j _ => by rw [xLt_i, lvM_L], fun j => by rw [xLt_i]; exact hlv _, fun c => by rw [lvM_L]; exact hlv c⟩
  obtain ⟨z, ez, hz⟩ := OK_ex (value_b hT X1 (kk m' hm) L1 hh hlo hhi hlh)
  obtain ⟨w, ew, w1, w2, -, w4⟩ := OK_ex hz
  obtain ⟨z', ez', hz'⟩ := OK_ex (value_b hT X2 (kk _ g2) L2 hh hlo hhi hlh)
  obtain ⟨w', ew', w1', -, -, -⟩ := OK_ex hz'
  have e : z = z' := Option.some.inj (ez.symm.trans ez')
  rw [ew]
  refine ⟨?_, w2, w4⟩
  unfold VTx
  rw [ew']
  show w.1 = w'.1
  rw [← w1, ← w1', e]
theorem value_v {m x' : Hp} {t T : Nat} {hd lo hi : Int} {Lf : Nat → Int} (hT : T ≤ 10) (X : TX x' m t T) (K : CKm m) (L : LT x' (mLt m Lf) t) (hh : 0 ≤ hd ∧ hd ≤ 255) (hlo : -1000 ≤ lo) (hhi : hi ≤ 1000) (hlh : lo ≤ hi) : OK (X10_value t hd lo hi x') (fun z => z.1 = VTx m T hd lo hi Lf ∧ ((lo ≤ z.1 ∧ z.1 ≤ hi) ∨ z.1 = 0) ∧ XF x' z.2 t) := by
  have g2 : ∀ c, 166 ≤ c → c ≤ 172 → mLt m Lf c = m c := fun c h1 h2 => mLt_o (by omega)
  have X2 : TX x' (mLt m Lf) t T := TX_cg rfl (fun _ _ _ => rfl) g2 X
  have K2 : CKm (mLt m Lf) := by
    unfold CKm at K ⊢
    rw [g2 171 (by decide) (by decide), g2 172 (by decide) (by decide)]
    exact K
  refine OK_mono (value_b hT X2 K2 L hh hlo hhi hlh) (fun z hz => ?_)
  obtain ⟨w, ew, w1, w2, w3, -⟩ := OK_ex hz
  refine ⟨?_, by rw [w1]; exact w2, w3⟩
  unfold VTx
  rw [ew, w1]
  rfl
/-- letters of the other side in the numbers of its cells -/
theorem LT_of {x' m : Hp} {t : Nat} {Lf : Nat → Int} (h1 : x' (t + 6) 1 = Lf 44) (h2 : x' (t + 6) 2 = Lf 45) (h8 : x' (t + 6) 8 = Lf 46) (h10 : x' (t + 6) 10 = Lf 47) (h11 : x' (t + 6) 11 = Lf 48) (h12 : x' (t + 6) 12 = Lf 49) (h13 : x' (t + 6) 13 = Lf 50) (h15 : x' (t + 6) 15 = Lf 51) (h18 : x' (t + 6) 18 = Lf 52) (h19 : x' (t + 6) 19 = Lf 53) (h22 : x' (t + 6) 22 = Lf 54) (h23 : x' (t + 6) 23 = Lf 55) (h24 : x' (t + 6) 24 = Lf 56) (h25 : x' (t + 6) 25 = Lf 57) (hx : ∀ j, -2147483648 ≤ x' (t + 6) j ∧ x' (t + 6) j < 2147483648) (hL : bdL Lf) : LT x' (mLt m Lf) t := by
  obtain ⟨l1, l2, l8, l10, l11, l12, l13, l15, l18, l19, l22, l23, l24, l25⟩ := lv_all (mLt m Lf)
  refine ⟨fun j hj => ?_, hx, fun c => lv_b (fun j h1 h2 => by rw [mLt_i h1 h2]; exact hL j h1 h2) c⟩
  rcases hj with e | e | e | e | e | e | e | e | e | e | e | e | e | e <;> subst e
  · rw [l1, h1, mLt_i (by decide) (by decide)]
  · rw [l2, h2, mLt_i (by decide) (by decide)]
  · rw [l8, h8, mLt_i (by decide) (by decide)]
  · rw [l10, h10, mLt_i (by decide) (by decide)]
  · rw [l11, h11, mLt_i (by decide) (by decide)]
  · rw [l12, h12, mLt_i (by decide) (by decide)]
  · rw [l13, h13, mLt_i (by decide) (by decide)]
  · rw [l15, h15, mLt_i (by decide) (by decide)]
  · rw [l18, h18, mLt_i (by decide) (by decide)]
  · rw [l19, h19, mLt_i (by decide) (by decide)]
  · rw [l22, h22, mLt_i (by decide) (by decide)]
  · rw [l23, h23, mLt_i (by decide) (by decide)]
  · rw [l24, h24, mLt_i (by decide) (by decide)]
  · rw [l25, h25, mLt_i (by decide) (by decide)]
