/-! what keeps what is kept of a search -/
theorem VTx_tx {x m w : Hp} {t T : Nat} {hd lo hi : Int} {L : Nat → Int} (hT : T ≤ 10) (X : TX x m t T) (Y : TX x w t T) (K : CKm m) (J : CKm w) (hb : bdL L) (hh : 0 ≤ hd ∧ hd ≤ 255) (hlo : -1000 ≤ lo) (hhi : hi ≤ 1000) (hlh : lo ≤ hi) : VTx w T hd lo hi L = VTx m T hd lo hi L := by
  have hb1 : bdL (mLt m L 150) := fun j h1 h2 => by
    rw [mLt_i h1 h2]
    exact hb j h1 h2
  have hlv : ∀ c, -2147483648 ≤ lvM (mLt m L) c ∧ lvM (mLt m L) c < 2147483648 := fun c => lv_b hb1 c
  have e0 : ∀ c, lvM (mLt w L) c = lvM (mLt m L) c := fun c => by
    have h1 := lvM_L w (mLt m L) c
    rw [← h1]
    congr 1
    exact mLt_cg (fun j h1 h2 => by rw [mLt_i h1 h2])
  have L1 : LT (xLt x (mLt m L) t) (mLt m L) t := ⟨fun j _ => xLt_i, fun j => by rw [xLt_i]; exact hlv _, hlv⟩
  have L2 : LT (xLt x (mLt m L) t) (mLt w L) t := ⟨fun j _ => by rw [xLt_i, e0], fun j => by rw [xLt_i]; exact hlv _, fun c => by rw [e0]; exact hlv c⟩
  have X1 : TX (xLt x (mLt m L) t) m t T := TX_cg (by rw [xLt_o (by omega)]) (fun i h1 h2 => xLt_o (by omega)) (fun _ _ _ => rfl) X
  have Y1 : TX (xLt x (mLt m L) t) w t T := TX_cg (by rw [xLt_o (by omega)]) (fun i h1 h2 => xLt_o (by omega)) (fun _ _ _ => rfl) Y
  obtain ⟨a, ea, a1, -, -⟩ := OK_ex (value_v hT X1 K L1 hh hlo hhi hlh)
  obtain ⟨b, eb, b1, -, -⟩ := OK_ex (value_v hT Y1 J L2 hh hlo hhi hlh)
  have e : a = b := Option.some.inj (ea.symm.trans eb)
  rw [← a1, ← b1, e]
theorem mthF_cg {f g : Nat → Bool} {p : Nat} : ∀ n, (∀ i, i < n → f i = g i) → mthF f p n = mthF g p n := by
  intro n
  induction n with
  | zero => intro _; rfl
  | succ n ih =>
    intro h
    rw [mthF_s, mthF_s, h n (by omega), cnBt_cg n (fun i hi => h i (by omega)), ih (fun i hi => h i (by omega))]
/-- what a search hangs on -/
def kpM (m w : Hp) (n : Nat) : Prop := (∀ i, i < n → w 161 i = m 161 i) ∧ (w 187 = m 187 ∧ w 188 = m 188) ∧ ∀ a b, a < n → b < n → plV w a b = plV m a b
theorem kpM_N {m w : Hp} {n : Nat} (H : kpM m w n) (P k : Nat) : orN w n k = orN m n k ∧ orM w n k = orM m n k ∧ orA w n P k = orA m n P k ∧ orG w n k = orG m n k := by
  obtain ⟨h1, ⟨h2, h3⟩, h4⟩ := H
  have f : ∀ i, i < n → wkB w k i = wkB m k i := fun i hi => by
    unfold wkB
    rw [h1 i hi]
  have e1 : orN w n k = orN m n k := cnBt_cg n f
  have e2 : orM w n k = orM m n k := funext fun p => mthF_cg n f
  refine ⟨e1, e2, ?_, ?_⟩
  · unfold orA
    rw [e1, e2]
    funext a b
    exact aheB_cg h2 h3 (fun _ _ => rfl) a b
  · unfold orG
    rw [e1, e2]
    funext l a
    unfold gaV
    by_cases c : l < orN m n k ∧ a < orN m n k
    · rw [if_pos c, if_pos c]
      exact h4 _ _ (mthF_m (f := wkB m k) n c.1).2 (mthF_m (f := wkB m k) n c.2).2
    · rw [if_neg c, if_neg c]
theorem solX_kp {x z m w : Hp} {n P k : Nat} (H : kpM m w n) (hz : ∀ e, 66 ≤ e → e ≤ 76 → z e = x e) (s : solX x m n P k) : solX z w n P k := by
  obtain ⟨e1, e2, e3, e4⟩ := kpM_N H P k
  unfold solX orV grX tbX at s ⊢
  rw [e1, e2, e3, e4, hz 66 (by decide) (by decide), hz 69 (by decide) (by decide), hz 70 (by decide) (by decide), hz 71 (by decide) (by decide), hz 72 (by decide) (by decide), hz 73 (by decide) (by decide), hz 74 (by decide) (by decide)]
  exact s
theorem solC_kp {x z m w : Hp} {n P k : Nat} (H : kpM m w n) (hz : ∀ e, 66 ≤ e → e ≤ 76 → z e = x e) (s : solC x m n P k) : solC z w n P k := by
  obtain ⟨e1, e2, e3, e4⟩ := kpM_N H P k
  unfold solC at s ⊢
  rw [e1, e3, e4, hz 66 (by decide) (by decide), hz 76 (by decide) (by decide)]
  exact s
theorem RO_kp {x z m w : Hp} {n P : Nat} (H : kpM m w n) (h75 : w 150 75 = m 150 75) (hz : ∀ e, 66 ≤ e → e ≤ 76 → z e = x e) (O : RO x m n P) : RO z w n P := by
  obtain ⟨⟨p1, p2, p3, p4⟩, o2⟩ := O
  obtain ⟨-, ⟨q1, q2⟩, -⟩ := id H
  refine ⟨⟨p1, by rw [hz 66 (by decide) (by decide), p2], by rw [h75, p3], fun q hq => by rw [hz 67 (by decide) (by decide), hz 68 (by decide) (by decide), q1, q2]; exact p4 q hq⟩, ?_⟩
  rcases o2 with o | ⟨k, k1, k2, k3, k4⟩
  · exact Or.inl (by rw [hz 66 (by decide) (by decide), o])
  · exact Or.inr ⟨k, k1, by rw [hz 66 (by decide) (by decide), k2], solX_kp H hz k3, solC_kp H hz k4⟩
theorem RO_fg {x z m w : Hp} {n n' P : Nat} (h7 : w 187 = m 187 ∧ w 188 = m 188) (h75 : w 150 75 = m 150 75) (hz : z 66 2 = x 66 2 ∧ z 67 = x 67 ∧ z 68 = x 68) (h16 : z 66 16 = -1) (O : RO x m n P) : RO z w n' P := by
  obtain ⟨⟨p1, p2, p3, p4⟩, -⟩ := O
  exact ⟨⟨p1, by rw [hz.1, p2], by rw [h75, p3], fun q hq => by rw [hz.2.1, hz.2.2, h7.1, h7.2]; exact p4 q hq⟩, Or.inl h16⟩
/-- the same plan and the same bits give the same -/
theorem kpM_of {x m w : Hp} {n : Nat} (S : SB m) (X : TX x m 28 8) (Y : TX x w 28 8) (K : CKm m) (J : CKm w) (hn : m 150 5 = (n : Int)) (h1 : ∀ e i, 160 ≤ e → e ≤ 164 → i < n → w e i = m e i) (h2 : ∀ i : Nat, (i : Int) < m 150 4 → w 159 i = m 159 i) (h3 : w 187 = m 187 ∧ w 188 = m 188) : kpM m w n := by
  obtain ⟨-, -, -, ⟨b160, -⟩, -, ⟨bb, -⟩⟩ := id S
  refine ⟨fun i hi => h1 161 i (by decide) (by decide) hi, h3, fun a b ha hb => ?_⟩
  have c1 := b160 a
  have c2 := b160 b
  have d1 := (bb a (by omega)).2.1
  have d2 := (bb b (by omega)).2.1
  have eL : plL w a b = plL m a b := by
    funext j
    unfold plL
    rw [h1 162 a (by decide) (by decide) ha, h1 162 b (by decide) (by decide) hb, h1 163 a (by decide) (by decide) ha, h1 163 b (by decide) (by decide) hb, h1 160 a (by decide) (by decide) ha, h1 160 b (by decide) (by decide) hb, h1 164 a (by decide) (by decide) ha, h1 164 b (by decide) (by decide) hb, h2 (m 160 a).toNat (by omega), h2 (m 160 b).toNat (by omega)]
  unfold plV
  rw [eL]
  exact VTx_tx (by decide) X Y K J (plL_bd S a b) (by decide) (by decide) (by decide) (by decide)
theorem writer_k {m : Hp} (S : SB m) {a : Int} (ha : I32 a) : OK (X12_writer a m) (fun w => ∀ j : Nat, (j : Int) < m 150 4 → w.2 159 j = m 159 j) := by
  obtain ⟨⟨b2, b3, b4, b5⟩, -⟩ := id S
  obtain ⟨n, en⟩ := Int.eq_ofNat_of_zero_le b4.1
  unfold X12_writer
  rw [I32_w ha, lies_in (by have := ha.1; omega) (by have := ha.2; omega) (by omega) (by omega) (by omega) (by omega), en]
  simp only [w32_id (z := (n : Int)) (by omega) (by omega), show w32 8 = 8 from rfl]
  refine OK_if (fun c => by rw [OK_some]; exact fun _ _ => rfl) (fun c => ?_)
  rw [OK_bindE, OK_some]
  refine OK_if (fun d => OK_gi (by omega) (by omega) (by omega) ?_) (fun d => by rw [OK_some]; exact fun _ _ => rfl)
  rw [OK_some]
  intro j hj
  dsimp only
  rw [setH_o (by decide), tn, setH_n (by omega)]
