/-! ONE HEAP: what keeps the relations -/
def fpS (e : Nat) : Prop := 3 ≤ e ∧ e ≤ 17
def gpS (e j : Nat) : Prop := (152 ≤ e ∧ e ≤ 165) ∨ (e = 150 ∧ 2 ≤ j ∧ j ≤ 5)
def fpT (e j : Nat) : Prop := (e = 1 ∧ j = 1) ∨ (e = 0 ∧ j = 15) ∨ e = 2
def gpT (e j : Nat) : Prop := (e = 150 ∧ (j = 1 ∨ j = 6)) ∨ e = 151
def fpC (e : Nat) : Prop := 55 ≤ e ∧ e ≤ 58
def gpC (e j : Nat) : Prop := e = 156 ∨ e = 157 ∨ e = 164 ∨ e = 165 ∨ (e = 150 ∧ j = 5)
def fpE (e j : Nat) : Prop := (e = 81 ∧ j = 1) ∨ (82 ≤ e ∧ e ≤ 84)
def gpE (e j : Nat) : Prop := (e = 150 ∧ (j = 88 ∨ j = 3)) ∨ (196 ≤ e ∧ e ≤ 198)
def fpP (e j : Nat) : Prop := (28 ≤ e ∧ e ≤ 33 ∧ (e = 28 → j = 0)) ∨ (36 ≤ e ∧ e ≤ 41 ∧ (e = 36 → j = 0)) ∨ (44 ≤ e ∧ e ≤ 49 ∧ (e = 44 → j = 0)) ∨ (86 ≤ e ∧ e ≤ 149 ∧ (e - 86) % 8 ≤ 5 ∧ ((e - 86) % 8 = 0 → j = 0))
def gpP (e : Nat) : Prop := 166 ≤ e ∧ e ≤ 172
def fpA (e : Nat) : Prop := 86 ≤ e ∧ e ≤ 149 ∧ (e - 86) % 8 = 6
def fpD (e : Nat) : Prop := 66 ≤ e ∧ e ≤ 76
def gpD (e j : Nat) : Prop := (160 ≤ e ∧ e ≤ 164) ∨ e = 187 ∨ e = 188 ∨ (e = 150 ∧ (j = 5 ∨ j = 75))
theorem kpS {x m z w : Hp} (hz : ∀ e j, fpS e → z e j = x e j) (hw : ∀ e j, gpS e j → w e j = m e j) (R : RS x m) : RS z w := RS_cg (fun e j h => hz e j h) (fun e j h => hw e j h) R
theorem kpT {x m z w : Hp} (hz : ∀ e j, fpT e j → z e j = x e j) (hw : ∀ e j, gpT e j → w e j = m e j) (R : RT x m) : RT z w := RT_cg (hz 1 1 (by unfold fpT; omega)) (hz 0 15 (by unfold fpT; omega)) (funext fun j => hz 2 j (by unfold fpT; omega)) (hw 150 1 (by unfold gpT; omega)) (hw 150 6 (by unfold gpT; omega)) (funext fun j => hw 151 j (by unfold gpT; omega)) R
theorem kpC {x m z w : Hp} (hz : ∀ e j, fpC e → z e j = x e j) (hw : ∀ e j, gpC e j → w e j = m e j) (R : RC x m) : RC z w := RC_cg (fun e j h => hz e j h) (by rw [hw 150 5 (by unfold gpC; omega)]; exact Int.le_refl _) (fun i k _ _ _ => ⟨hw 156 k (by unfold gpC; omega), neM_cg (hw 164 i (by unfold gpC; omega)) (fun p _ => hw 165 _ (by unfold gpC; omega)) (hw 156 k (by unfold gpC; omega)) (fun p _ => hw 157 _ (by unfold gpC; omega))⟩) R
theorem kpE {x m z w : Hp} (hz : ∀ e j, fpE e j → z e j = x e j) (hw : ∀ e j, gpE e j → ¬ (e = 150 ∧ j = 3) → w e j = m e j) (h3 : m 150 3 ≤ w 150 3) (R : RE x m) : RE z w := RE_cg (hz 81 1 (by unfold fpE; omega)) (funext fun j => hz 82 j (by unfold fpE; omega)) (funext fun j => hz 83 j (by unfold fpE; omega)) (funext fun j => hz 84 j (by unfold fpE; omega)) (hw 150 88 (by unfold gpE; omega) (by omega)) (funext fun j => hw 196 j (by unfold gpE; omega) (by omega)) (funext fun j => hw 197 j (by unfold gpE; omega) (by omega)) (funext fun j => hw 198 j (by unfold gpE; omega) (by omega)) h3 R
theorem kpP {x m z w : Hp} (hz : ∀ e j, fpP e j → z e j = x e j) (hw : ∀ e j, gpP e → w e j = m e j) (R : RP x m) : RP z w := RP_cg (fun T hT => by
  have key : ∀ i j, i ≤ 5 → (i = 0 → j = 0) → z (tOf T + i) j = x (tOf T + i) j := fun i j hi hj => hz _ _ (by
    unfold tOf fpP
    split <;> omega)
  exact ⟨key 0 0 (by omega) (fun _ => rfl), fun i h1 h2 => funext fun j => key i j h2 (fun q => by omega)⟩) (fun c h1 h2 => funext fun j => hw c j ⟨h1, h2⟩) R
theorem kpA {x z : Hp} (hz : ∀ e j, fpA e → z e j = x e j) (W : RLa x) : RLa z := fun U hU => by
  have e : z (86 + 8 * U + 6) = x (86 + 8 * U + 6) := funext fun j => hz _ j (by unfold fpA; omega)
  have := W U hU
  unfold RLw at this ⊢
  rw [e]
  exact this
theorem kpt {x z : Hp} (hz : ∀ j, z 50 j = x 50 j) (W : RLt x) : RLt z := by
  have e : z 50 = x 50 := funext hz
  unfold RLt at W ⊢
  rw [e]
  exact W
theorem kph {x z : Hp} (hz : ∀ j, z 42 j = x 42 j) (W : RLh x) : RLh z := by
  have e : z 42 = x 42 := funext hz
  unfold RLh at W ⊢
  rw [e]
  exact W
theorem kpp {x z : Hp} (hz : ∀ j, z 34 j = x 34 j) (W : RLp x) : RLp z := by
  have e : z 34 = x 34 := funext hz
  unfold RLp at W ⊢
  rw [e]
  exact W
def RD (x m : Hp) : Prop := ∃ n P : Nat, m 150 5 = (n : Int) ∧ RO x m n P
theorem TX_8 {x m z : Hp} (h : z 28 0 = x 28 0 ∧ ∀ e j, 29 ≤ e → e ≤ 33 → z e j = x e j) (R : RP x m) : TX z m 28 8 := TX_cg (x := x) (t := 28) h.1 (fun i h1 h2 => funext fun j => h.2 _ j (by omega) (by omega)) (fun _ _ _ => rfl) (R.1 8 (by decide))
theorem kpD {x m z w : Hp} (S : SB m) (Y : RP x m) (Z : RP z w) (h8 : z 28 0 = x 28 0 ∧ ∀ e j, 29 ≤ e → e ≤ 33 → z e j = x e j) (hz : ∀ e j, fpD e → z e j = x e j) (hw : ∀ e j, gpD e j → w e j = m e j) (h9 : ∀ i : Nat, (i : Int) < m 150 4 → w 159 i = m 159 i) (R : RD x m) : RD z w := by
  obtain ⟨n, P, hn, O⟩ := R
  refine ⟨n, P, by rw [hw 150 5 (by unfold gpD; omega), hn], RO_kp (kpM_of (x := z) S (TX_8 h8 Y) (Z.1 8 (by decide)) Y.2 Z.2 hn (fun e i h1 h2 _ => hw e i (by unfold gpD; omega)) h9 ⟨funext fun j => hw 187 j (by unfold gpD; omega), funext fun j => hw 188 j (by unfold gpD; omega)⟩) (hw 150 75 (by unfold gpD; omega)) (fun e h1 h2 => funext fun j => hz e j ⟨h1, h2⟩) O⟩
/-- all of them -/
def RAll (x m : Hp) : Prop := RS x m ∧ RT x m ∧ RC x m ∧ RE x m ∧ RP x m ∧ (RLa x ∧ RLt x ∧ RLh x ∧ RLp x) ∧ RD x m
theorem RAll_cg {x m z w : Hp} (hz : ∀ e j, e < 150 → z e j = x e j) (hw : ∀ e j, 150 ≤ e → w e j = m e j) (R : RAll x m) : RAll z w := by
  obtain ⟨r1, r2, r3, r4, r5, ⟨r6, r7, r8, r9⟩, r10⟩ := R
  have p : RP z w := kpP (fun e j q => hz e j (by unfold fpP at q; omega)) (fun e j q => hw e j (by unfold gpP at q; omega)) r5
  exact ⟨kpS (fun e j q => hz e j (by unfold fpS at q; omega)) (fun e j q => hw e j (by unfold gpS at q; omega)) r1, kpT (fun e j q => hz e j (by unfold fpT at q; omega)) (fun e j q => hw e j (by unfold gpT at q; omega)) r2, kpC (fun e j q => hz e j (by unfold fpC at q; omega)) (fun e j q => hw e j (by unfold gpC at q; omega)) r3, kpE (fun e j q => hz e j (by unfold fpE at q; omega)) (fun e j q _ => hw e j (by unfold gpE at q; omega)) (by rw [hw 150 3 (by omega)]; exact Int.le_refl _) r4, p, ⟨kpA (fun e j q => hz e j (by unfold fpA at q; omega)) r6, kpt (fun j => hz 50 j (by omega)) r7, kph (fun j => hz 42 j (by omega)) r8, kpp (fun j => hz 34 j (by omega)) r9⟩, kpD r1.2 r5 p ⟨hz 28 0 (by omega), fun e j h1 h2 => hz e j (by omega)⟩ (fun e j q => hz e j (by unfold fpD at q; omega)) (fun e j q => hw e j (by unfold gpD at q; omega)) (fun i _ => hw 159 i (by omega)) r10⟩
/-- both sides on one heap -/
theorem oneH_of {F Gf : Hp → Option (Int × Hp)} (H : ∀ x m, RAll x m → OK (F x) (fun z => OK (Gf m) (fun w => z.1 = w.1 ∧ RAll z.2 w.2 ∧ (∀ e j, 150 ≤ e → z.2 e j = x e j) ∧ ∀ e j, e < 150 → w.2 e j = m e j))) {h : Hp} (R : RAll h h) : OK (F h) (fun z => OK (Gf z.2) (fun w => z.1 = w.1 ∧ RAll w.2 w.2)) := by
  obtain ⟨z, ez, hz⟩ := OK_ex (H h h R)
  obtain ⟨w0, -, -, -, f1, -⟩ := OK_ex hz
  have R1 : RAll h z.2 := RAll_cg (fun _ _ _ => rfl) f1 R
  obtain ⟨z', ez', hz'⟩ := OK_ex (H h z.2 R1)
  have e : z = z' := Option.some.inj (ez.symm.trans ez')
  subst e
  obtain ⟨w, ew, e1, Rw, -, f3⟩ := OK_ex hz'
  rw [ez, OK_some, ew, OK_some]
  exact ⟨e1, RAll_cg f3 (fun _ _ _ => rfl) Rw⟩
theorem twoH_of {F : Hp → Option (Int × Hp)} {Gf : Hp → Option Int} (H : ∀ x m, RAll x m → OK (F x) (fun z => OK (Gf m) (fun w => z.1 = w ∧ RAll z.2 m ∧ (∀ e j, 150 ≤ e → z.2 e j = x e j)))) {h : Hp} (R : RAll h h) : OK (F h) (fun z => OK (Gf z.2) (fun w => z.1 = w ∧ RAll z.2 z.2)) := by
  obtain ⟨z, ez, hz⟩ := OK_ex (H h h R)
  obtain ⟨w0, -, -, -, f1⟩ := OK_ex hz
  have R1 : RAll h z.2 := RAll_cg (fun _ _ _ => rfl) f1 R
  obtain ⟨z', ez', hz'⟩ := OK_ex (H h z.2 R1)
  have e : z = z' := Option.some.inj (ez.symm.trans ez')
  subst e
  obtain ⟨w, ew, e1, Rw, -⟩ := OK_ex hz'
  rw [ez, OK_some, ew, OK_some]
  exact ⟨e1, Rw⟩
