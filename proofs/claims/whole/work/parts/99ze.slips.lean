/-! SLIPS: what a writer has at the places of a work -/
theorem cnBt_t {f : Nat → Bool} {n : Nat} (h : f n = true) : cnBt f (n + 1) = cnBt f n + 1 := by
  rw [cnBt, if_pos h]
theorem cnBt_n {f : Nat → Bool} {n : Nat} (h : f n = false) : cnBt f (n + 1) = cnBt f n := by
  rw [cnBt, h]
  rfl
def otW (m : Hp) (i k : Nat) : Nat := cnBt (fun p => decide (m 165 (8 * i + p) ≠ m 157 (40 * k + (neM m i k).2.1.toNat + p))) (m 164 i).toNat
def qlB (m : Hp) (i k : Nat) : Bool := decide ((neM m i k).2.2 - (neM m i k).2.1 + 1 = m 164 i ∧ ((otW m i k : Nat) : Int) = (neM m i k).1)
/-- the first words put at the places that a bit has -/
def gvP (W : Nat → Int) (f t : Nat) (wd : Nat → Int) (pl : Nat) : Int := if W pl = -1 ∧ f ≤ pl ∧ pl < f + t then wd (pl - f) else W pl
def hwF (m : Hp) (k wr : Nat) : Nat → Nat → Int
  | 0 => fun _ => -1
  | i + 1 => if m 161 i = (k : Int) ∧ m 160 i = (wr : Int) ∧ qlB m i k = true then gvP (hwF m k wr i) (neM m i k).2.1.toNat (m 164 i).toNat (fun p => m 165 (8 * i + p)) else hwF m k wr i
theorem hwF_s (m : Hp) (k wr i : Nat) : hwF m k wr (i + 1) = if m 161 i = (k : Int) ∧ m 160 i = (wr : Int) ∧ qlB m i k = true then gvP (hwF m k wr i) (neM m i k).2.1.toNat (m 164 i).toNat (fun p => m 165 (8 * i + p)) else hwF m k wr i := rfl
theorem gvP_s {W : Nat → Int} {f t : Nat} {wd : Nat → Int} (hw : wd t ≠ -1) (pl : Nat) : gvP W f (t + 1) wd pl = if pl = f + t ∧ W pl = -1 then wd t else gvP W f t wd pl := by
  unfold gvP
  by_cases c : pl = f + t
  · subst c
    by_cases d : W (f + t) = -1
    · have a1 : W (f + t) = -1 ∧ f ≤ f + t ∧ f + t < f + (t + 1) := ⟨d, by omega, by omega⟩
      have a2 : f + t = f + t ∧ W (f + t) = -1 := ⟨rfl, d⟩
      rw [if_pos a1, if_pos a2, show f + t - f = t from by omega]
    · have a1 : ¬ (W (f + t) = -1 ∧ f ≤ f + t ∧ f + t < f + (t + 1)) := fun q => d q.1
      have a2 : ¬ (f + t = f + t ∧ W (f + t) = -1) := fun q => d q.2
      have a3 : ¬ (W (f + t) = -1 ∧ f ≤ f + t ∧ f + t < f + t) := fun q => d q.1
      rw [if_neg a1, if_neg a2, if_neg a3]
  · have a2 : ¬ (pl = f + t ∧ W pl = -1) := fun q => c q.1
    rw [if_neg a2]
    by_cases d : W pl = -1 ∧ f ≤ pl ∧ pl < f + t
    · have a1 : W pl = -1 ∧ f ≤ pl ∧ pl < f + (t + 1) := ⟨d.1, d.2.1, by omega⟩
      rw [if_pos d, if_pos a1]
    · have a1 : ¬ (W pl = -1 ∧ f ≤ pl ∧ pl < f + (t + 1)) := fun q => d ⟨q.1, q.2.1, by omega⟩
      rw [if_neg d, if_neg a1]
theorem gvP_0 (W : Nat → Int) (f : Nat) (wd : Nat → Int) : gvP W f 0 wd = W := by
  funext pl
  unfold gvP
  rw [if_neg (by omega)]
theorem hwF_bd {m : Hp} (S : SB m) {k wr : Nat} (hl : 1 ≤ m 156 k) : ∀ n : Nat, (n : Int) ≤ m 150 5 → ∀ pl, (hwF m k wr n pl = -1 ∨ (0 ≤ hwF m k wr n pl ∧ hwF m k wr n pl ≤ 63)) ∧ (m 156 k ≤ (pl : Int) → hwF m k wr n pl = -1) := by
  intro n
  induction n with
  | zero => intro _ pl; exact ⟨Or.inl rfl, fun _ => rfl⟩
  | succ n ih =>
    intro hn pl
    obtain ⟨i1, i2⟩ := ih (by omega) pl
    rw [hwF_s]
    by_cases c : m 161 n = (k : Int) ∧ m 160 n = (wr : Int) ∧ qlB m n k = true
    · rw [if_pos c]
      have q := c.2.2
      unfold qlB at q
      rw [decide_eq_true_iff] at q
      have g := neM_gd S (i := n) (k := k) (by omega) hl
      have b165 := S.2.2.2.2.1.2
      have b164 := S.2.2.2.2.1.1 n
      unfold gvP
      by_cases d : hwF m k wr n pl = -1 ∧ (neM m n k).2.1.toNat ≤ pl ∧ pl < (neM m n k).2.1.toNat + (m 164 n).toNat
      · rw [if_pos d]
        exact ⟨Or.inr (b165 _), fun h => by omega⟩
      · rw [if_neg d]
        exact ⟨i1, i2⟩
    · rw [if_neg c]
      exact ⟨i1, i2⟩
/-- what a SLIPS object holds -/
def SLw (ww W : Nat → Int) (s : Nat) (h : Hp) : Prop :=
  (∀ pl, pl < 64 → tb (h s 3) pl = decide (pl < 40 ∧ W pl ≠ -1)) ∧ (∀ pl, pl < 64 → tb (h s 4) pl = decide (pl < 40 ∧ W pl ≠ -1 ∧ W pl ≠ ww pl)) ∧ (∀ pl, pl < 40 → W pl ≠ -1 → W pl ≠ ww pl → h (s + 1) pl = W pl) ∧ w64 (h s 3) = h s 3 ∧ w64 (h s 4) = h s 4
theorem SLw_cg {ww W : Nat → Int} {s : Nat} {h g : Hp} (e3 : g s 3 = h s 3) (e4 : g s 4 = h s 4) (e5 : g (s + 1) = h (s + 1)) (H : SLw ww W s h) : SLw ww W s g := by
  unfold SLw at H ⊢
  rw [e3, e4, e5]
  exact H
theorem others_s {x m : Hp} (R : RS x m) {s i k f : Nat} (hi : (i : Int) < m 150 5) (hk : k < 8) (hf : (f : Int) + m 164 i ≤ 40) : X8_others s (i : Int) (k : Int) (f : Int) x = some ((cnBt (fun p => decide (m 165 (8 * i + p) ≠ m 157 (40 * k + f + p))) (m 164 i).toNat : Nat) : Int) := by
  obtain ⟨⟨⟨-, -, -, e311⟩, ⟨-, -, -, -, -, e9, -, -⟩, ⟨-, -, -, -, e16⟩, e17, -⟩, S⟩ := id R
  obtain ⟨⟨-, -, -, b5⟩, -, ⟨-, b157, -⟩, -, ⟨b164, b165⟩, -⟩ := id S
  have b4 := b164 i
  obtain ⟨sz, hsz⟩ := Int.eq_ofNat_of_zero_le b4.1
  have key : OK (iter (X8_others_l4 s (i : Int) (k : Int) (f : Int) x) FU (0, 0)) (fun z => z = ((cnBt (fun p => decide (m 165 (8 * i + p) ≠ m 157 (40 * k + f + p))) sz : Nat) : Int)) := by
    refine iter_up (fun p t => p ≤ sz ∧ t = (((cnBt (fun p => decide (m 165 (8 * i + p) ≠ m 157 (40 * k + f + p))) p : Nat) : Int), (p : Int))) _ sz (by omega) (fun p t hp hI => ?_) ⟨Nat.zero_le _, rfl⟩
    obtain ⟨-, rfl⟩ := hI
    unfold X8_others_l4 X8_others_j24
    dsimp only
    rw [bitSize_e i rfl (by omega), OK_bindE, OK_some]
    simp only [e16, hsz, w32_id (z := (sz : Int)) (by omega) (by omega), w32_id (z := (p : Int)) (by omega) (by omega)]
    refine OK_if (fun c => ?_) (fun c => ?_)
    · rw [OK_some, LQ_r, show p = sz from by omega]
    · have c1 := b165 (8 * i + p)
      have c2 := b157 (40 * k + f + p)
      rw [bitWord_e (8 * i + p) (by omega) (by omega), OK_bindE, OK_some, workWord_e (40 * k + f + p) (by omega) (by omega), OK_bindE, OK_some, e17 i p hi (by omega)]
      simp only [e9, w32_id (z := m 165 (8 * i + p)) (by omega) (by omega), w32_id (z := m 157 (40 * k + f + p)) (by omega) (by omega)]
      refine OK_if (fun d => ?_) (fun d => ?_)
      · rw [OK_some, LQ_l]
        refine ⟨by omega, by omega, ?_⟩
        rw [cnBt_n (show (fun p => decide (m 165 (8 * i + p) ≠ m 157 (40 * k + f + p))) p = false from decide_eq_false (fun q => q d))]
        rfl
      · rw [OK_some, LQ_l]
        refine ⟨by omega, by omega, ?_⟩
        have e : cnBt (fun p => decide (m 165 (8 * i + p) ≠ m 157 (40 * k + f + p))) (p + 1) = cnBt (fun p => decide (m 165 (8 * i + p) ≠ m 157 (40 * k + f + p))) p + 1 := by
          rw [cnBt, if_pos (by rw [decide_eq_true_iff]; exact d)]
        rw [e]
        rfl
  unfold X8_others
  obtain ⟨z, ez, hz⟩ := OK_ex key
  rw [ez, hz, Option.bind_some, hsz]
  rfl
theorem isIn_s {v : Int} {p : Nat} (hp : p < 40) : X8_isIn v (p : Int) = some (if tb v p = true then 1 else 0) := by
  unfold X8_isIn
  simp only [w32_id (z := (p : Int)) (by omega) (by omega), show w32 40 = 40 from rfl]
  rw [if_neg (by omega), if_neg (by omega)]
  by_cases c : tb v p = true
  · rw [if_neg (fun q => by rw [(bit_x (by omega)).mp q] at c; cases c), if_pos c]
  · rw [if_pos ((bit_x (by omega)).mpr (by cases h : tb v p; rfl; exact absurd h c)), if_neg c]
theorem has8_s {s p : Nat} {h : Hp} (hp : p < 40) : X8_has s (p : Int) h = some (if tb (h s 3) p = true then 1 else 0) := by
  unfold X8_has
  rw [isIn_s hp, Option.bind_some]
  by_cases c : tb (h s 3) p = true
  · rw [if_pos c, if_pos (Or.inr rfl)]
  · rw [if_neg c, if_pos (Or.inl rfl)]
theorem addP_s {ww W : Nat → Int} {s p : Nat} {h : Hp} {w : Int} (hp : p < 40) (hw : 0 ≤ w ∧ w ≤ 63) (hww : 0 ≤ ww p ∧ ww p ≤ 63) (H : SLw ww W s h) (hW : W p = -1) : OK (X8_addPlace s (p : Int) w (ww p) h) (fun g => SLw ww (fun q => if q = p then w else W q) s g ∧ ∀ a j, ¬ (a = s ∧ (j = 3 ∨ j = 4)) → a ≠ s + 1 → g a j = h a j) := by
  obtain ⟨h1, h2, h3, h4, h5⟩ := H
  unfold X8_addPlace
  simp only [w32_id (z := w) (by omega) (by omega), w32_id (z := ww p) (by omega) (by omega)]
  have key : ∀ q, q < 64 → tb (or64 (h s 3) (shl64 1 (p : Int))) q = decide (q < 40 ∧ (if q = p then w else W q) ≠ -1) := fun q hq => by
    rw [tb_or, h1 q hq, tb_shl (by omega) hq]
    by_cases e : q = p
    · subst e
      rw [if_pos rfl]
      have : w ≠ -1 := by omega
      simp [hp, this]
    · rw [if_neg e]
      simp [e]
  refine OK_if (fun c => ?_) (fun c => ?_)
  · rw [OK_some]
    refine ⟨⟨fun q hq => by rw [setH_s]; exact key q hq, fun q hq => ?_, fun q hq a b => ?_, by rw [setH_s, w64_or], by rw [setH_n (by decide)]; exact h5⟩, fun a j ha hb => by rw [setH_f (by omega)]⟩
    · rw [setH_n (by decide), h2 q hq]
      dsimp only
      by_cases e : q = p
      · subst e
        simp [hW, c]
      · simp [e]
    · rw [setH_o (by omega)]
      dsimp only at a b ⊢
      by_cases e : q = p
      · subst e
        rw [if_pos rfl] at b
        exact absurd c b
      · rw [if_neg e] at a b ⊢
        exact h3 q hq a b
  · rw [setH_n (show (4 : Nat) ≠ 3 by decide), put_e (a := s + 1) (n := 40) p rfl hp (by omega), OK_bindE, OK_some, OK_some]
    refine ⟨⟨fun q hq => by rw [setH_o (by omega), setH_n (by decide), setH_s]; exact key q hq, fun q hq => ?_, fun q hq a b => ?_, by rw [setH_o (by omega), setH_n (by decide), setH_s, w64_or], by rw [setH_o (by omega), setH_s, w64_or]⟩, fun a j ha hb => by rw [setH_f (by omega), setH_f (by omega), setH_f (by omega)]⟩
    · rw [setH_o (by omega), setH_s, tb_or, h2 q hq, tb_shl (by omega) hq]
      dsimp only
      by_cases e : q = p
      · subst e
        have : w ≠ -1 := by omega
        simp [hW, hp, this, c]
      · simp [e]
    · dsimp only at a b ⊢
      by_cases e : q = p
      · subst e
        rw [setH_s, if_pos rfl]
      · rw [if_neg e] at a b ⊢
        rw [setH_n e, setH_o (by omega), setH_o (by omega)]
        exact h3 q hq a b
