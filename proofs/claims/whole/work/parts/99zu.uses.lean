/-! WHOSE: how often an author has a word -/
def ctW (f : Nat → Int) (w n : Nat) : Nat := cnBt (fun p => decide (f p = (w : Int))) n
theorem ctW_s (f : Nat → Int) (w n : Nat) : ctW f w (n + 1) = ctW f w n + (if f n = (w : Int) then 1 else 0) := by
  unfold ctW
  by_cases c : f n = (w : Int)
  · rw [cnBt_t (decide_eq_true c), if_pos c]
  · rw [cnBt_n (decide_eq_false c), if_neg c, Nat.add_zero]
theorem ctW_le (f : Nat → Int) (w n : Nat) : ctW f w n ≤ n := cnBt_le _ _
def ofK (m : Hp) (a w : Nat) : Nat → Nat
  | 0 => 0
  | k + 1 => ofK m a w k + (if m 154 k = (a : Int) then ctW (fun p => m 157 (40 * k + p)) w (m 156 k).toNat else 0)
def alK (m : Hp) (a : Nat) : Nat → Nat
  | 0 => 0
  | k + 1 => alK m a k + (if m 154 k = (a : Int) then (m 156 k).toNat else 0)
def ofB (m : Hp) (s a w : Nat) : Nat → Nat
  | 0 => 0
  | i + 1 => ofB m s a w i + (if i ≠ s ∧ m 161 i ≠ -1 ∧ m 154 (m 161 i).toNat = (a : Int) then ctW (fun p => m 165 (8 * i + p)) w (m 164 i).toNat else 0)
def alBu (m : Hp) (s a : Nat) : Nat → Nat
  | 0 => 0
  | i + 1 => alBu m s a i + (if i ≠ s ∧ m 161 i ≠ -1 ∧ m 154 (m 161 i).toNat = (a : Int) then (m 164 i).toNat else 0)
theorem ofK_s (m : Hp) (a w k : Nat) : ofK m a w (k + 1) = ofK m a w k + (if m 154 k = (a : Int) then ctW (fun p => m 157 (40 * k + p)) w (m 156 k).toNat else 0) := rfl
theorem alK_s (m : Hp) (a k : Nat) : alK m a (k + 1) = alK m a k + (if m 154 k = (a : Int) then (m 156 k).toNat else 0) := rfl
theorem ofB_s (m : Hp) (s a w i : Nat) : ofB m s a w (i + 1) = ofB m s a w i + (if i ≠ s ∧ m 161 i ≠ -1 ∧ m 154 (m 161 i).toNat = (a : Int) then ctW (fun p => m 165 (8 * i + p)) w (m 164 i).toNat else 0) := rfl
theorem alBu_s (m : Hp) (s a i : Nat) : alBu m s a (i + 1) = alBu m s a i + (if i ≠ s ∧ m 161 i ≠ -1 ∧ m 154 (m 161 i).toNat = (a : Int) then (m 164 i).toNat else 0) := rfl
theorem uses_b {m : Hp} (S : SB m) (s a w : Nat) : (∀ k, ofK m a w k ≤ 40 * k ∧ alK m a k ≤ 40 * k) ∧ ∀ i, ofB m s a w i ≤ 8 * i ∧ alBu m s a i ≤ 8 * i := by
  obtain ⟨-, -, ⟨b156, -⟩, -, ⟨b164, -⟩, -⟩ := id S
  constructor
  · intro k
    induction k with
    | zero => exact ⟨Nat.le_refl _, Nat.le_refl _⟩
    | succ k ih =>
      have b := b156 k
      have c := ctW_le (fun p => m 157 (40 * k + p)) w (m 156 k).toNat
      rw [ofK_s, alK_s]
      split <;> omega
  · intro i
    induction i with
    | zero => exact ⟨Nat.le_refl _, Nat.le_refl _⟩
    | succ i ih =>
      have b := b164 i
      have c := ctW_le (fun p => m 165 (8 * i + p)) w (m 164 i).toNat
      rw [ofB_s, alBu_s]
      split <;> omega
def UWx (F : Nat → Nat) (G : Nat) (h : Hp) : Prop := (∀ w, w < 64 → h 78 w = ((F w : Nat) : Int)) ∧ h 77 3 = (G : Int)
theorem addUse_s {F : Nat → Nat} {G w : Nat} {h : Hp} {v : Int} (hv : v = (w : Int)) (hw : w < 64) (H : UWx F G h) : OK (X0_addUse v h) (fun g => UWx (fun u => F u + (if w = u then 1 else 0)) (G + 1) g ∧ ∀ e j, ¬ (e = 77 ∧ j = 3) → e ≠ 78 → g e j = h e j) := by
  obtain ⟨h1, h2⟩ := H
  unfold X0_addUse
  rw [at_e w hv hw (by omega), OK_bindE, OK_some, put_e w hv hw (by omega), OK_bindE, OK_some, OK_some, setH_o (show (77 : Nat) ≠ 78 by decide)]
  refine ⟨⟨fun u hu => ?_, by rw [setH_s, h2]; rfl⟩, fun e j q1 q2 => by rw [setH_f q1, setH_o q2]⟩
  rw [setH_o (by decide)]
  dsimp only
  by_cases e : u = w
  · subst e
    rw [setH_s, h1 u hu, if_pos rfl]
    rfl
  · rw [setH_n e, h1 u hu, if_neg (fun q => e q.symm)]
    rfl
theorem authorOf_s {x m : Hp} (R : RS x m) {v : Int} (hv : I32 v) : X7_authorOf v x = some (if 0 ≤ v ∧ v < m 150 3 then m 154 v.toNat else -1) := by
  obtain ⟨⟨⟨-, e33, -, -⟩, ⟨-, -, e6, -⟩, -⟩, S⟩ := id R
  have b3 := S.1.2.1
  unfold X7_authorOf
  rw [x_isK (by omega) (by omega), e33, I32_w hv, Option.bind_some]
  by_cases c : 0 ≤ v ∧ v < m 150 3
  · obtain ⟨k, rfl⟩ := Int.eq_ofNat_of_zero_le c.1
    rw [if_pos c, if_pos c, if_neg (by decide), at_e k rfl (by omega) (by omega), Option.bind_some, e6, tn]
  · rw [if_neg c, if_neg c, if_pos (by decide)]
def cXU (e j : Nat) : Prop := (e = 77 ∧ j = 3) ∨ e = 78
theorem RS_cU {x z m : Hp} (hz : ∀ e j, ¬ cXU e j → z e j = x e j) (R : RS x m) : RS z m := RS_cg (fun a j h => hz a j (by unfold cXS at h; unfold cXU; omega)) (fun _ _ _ => rfl) R
theorem usesX_s {x m : Hp} (R : RS x m) {a s n nk : Nat} (hn : m 150 5 = (n : Int)) (hnk : m 150 3 = (nk : Int)) (ha : a < 8) (hs : s < 40) : OK (X0_gatherUses (a : Int) (s : Int) x) (fun z => UWx (fun w => ofK m a w nk + ofB m s a w n) (alK m a nk + alBu m s a n) z ∧ ∀ e j, ¬ cXU e j → z e j = x e j) := by
  obtain ⟨-, S⟩ := id R
  obtain ⟨⟨-, b3, b4, b5⟩, ⟨-, -, b154, -⟩, ⟨b156, b157, -⟩, ⟨-, b161, -⟩, ⟨b164, b165⟩, ⟨bb, -⟩⟩ := id S
  unfold X0_gatherUses
  rw [OK_bindE]
  refine OK_mono (iter_up (fun p st => p ≤ 64 ∧ ∃ h : Hp, st = ((p : Int), h) ∧ (∀ w, w < p → h 78 w = 0) ∧ h 77 3 = 0 ∧ ∀ e j, ¬ cXU e j → h e j = x e j) (fun h => UWx (fun _ => 0) 0 h ∧ ∀ e j, ¬ cXU e j → h e j = x e j) 64 (by omega) (fun p st hp hI => ?_) ⟨Nat.zero_le _, _, rfl, fun w hw => by omega, by rw [setH_s], fun e j q => by rw [setH_f (fun r => q (Or.inl r))]⟩) (fun h0 hh0 => ?_)
  · obtain ⟨-, h, rfl, h1, h2, hf⟩ := hI
    unfold X0_gatherUses_l5
    dsimp only
    simp only [w32_id (z := (p : Int)) (by omega) (by omega), show w32 64 = 64 from rfl]
    refine OK_if (fun c => ?_) (fun c => ?_)
    · rw [OK_some, LQ_r]
      exact ⟨⟨fun w hw => h1 w (by omega), h2⟩, hf⟩
    · refine OK_gi (by omega) (by omega) (by omega) ?_
      rw [OK_some, LQ_l, tn]
      refine ⟨by omega, by omega, _, rfl, fun w hw => ?_, by rw [setH_o (by decide), h2], fun e j q => by rw [setH_o (fun r => q (Or.inr r)), hf e j q]⟩
      by_cases e : w = p
      · subst e
        rw [setH_s]
      · rw [setH_n e]
        exact h1 w (by omega)
  · obtain ⟨H0, F0⟩ := hh0
    rw [OK_bindE]
    refine OK_mono (iter_up (fun k st => k ≤ nk ∧ ∃ h : Hp, st = ((k : Int), h) ∧ UWx (fun w => ofK m a w k) (alK m a k) h ∧ ∀ e j, ¬ cXU e j → h e j = x e j) (fun h => UWx (fun w => ofK m a w nk) (alK m a nk) h ∧ ∀ e j, ¬ cXU e j → h e j = x e j) nk (by omega) (fun k st hk hI => ?_) ⟨Nat.zero_le _, h0, rfl, H0, F0⟩) (fun h1 hh1 => ?_)
    · obtain ⟨-, h, rfl, H, hf⟩ := hI
      have Rh : RS h m := RS_cU hf R
      obtain ⟨⟨⟨-, i33, -, -⟩, -⟩, -⟩ := id Rh
      unfold X0_gatherUses_l17 X7_works
      dsimp only
      rw [OK_bindE, OK_some]
      simp only [i33, hnk, w32_id (z := (nk : Int)) (by omega) (by omega), w32_id (z := (k : Int)) (by omega) (by omega)]
      refine OK_if (fun c => ?_) (fun c => ?_)
      · rw [OK_some, LQ_r]
        have : k = nk := by omega
        subst this
        exact ⟨H, hf⟩
      · have hk8 : k < 8 := by omega
        have bk := b156 k
        have ba := b154 k
        obtain ⟨N, hN⟩ := Int.eq_ofNat_of_zero_le bk.1
        rw [OK_bindE]
        refine OK_mono (iter_up (fun p st => p ≤ N ∧ ∃ g : Hp, st = ((p : Int), g) ∧ (m 154 k ≠ (a : Int) → p = 0) ∧ UWx (fun w => ofK m a w k + (if m 154 k = (a : Int) then ctW (fun p => m 157 (40 * k + p)) w p else 0)) (alK m a k + (if m 154 k = (a : Int) then p else 0)) g ∧ ∀ e j, ¬ cXU e j → g e j = x e j) (fun g => UWx (fun w => ofK m a w (k + 1)) (alK m a (k + 1)) g ∧ ∀ e j, ¬ cXU e j → g e j = x e j) N (by omega) (fun p st hp hI => ?_) ⟨Nat.zero_le _, h, rfl, fun _ => rfl, ?_, hf⟩) (fun g hg => ?_)
        · obtain ⟨-, g, rfl, hp0, G, gf⟩ := hI
          have Rg : RS g m := RS_cU gf R
          obtain ⟨⟨-, ⟨-, -, -, -, i8, i9, -, -⟩, -⟩, -⟩ := id Rg
          unfold X0_gatherUses_l24
          dsimp only
          rw [authorOf_s Rg ⟨by omega, by omega⟩, OK_bindE, OK_some, if_pos (show 0 ≤ (k : Int) ∧ (k : Int) < m 150 3 from ⟨by omega, by omega⟩), tn]
          simp only [w32_id (z := m 154 k) (by omega) (by omega), w32_id (z := (a : Int)) (by omega) (by omega)]
          refine OK_if (fun d => ?_) (fun d => ?_)
          · rw [OK_some, LQ_r]
            refine ⟨?_, gf⟩
            have e1 : (fun w => ofK m a w k + (if m 154 k = (a : Int) then ctW (fun p => m 157 (40 * k + p)) w p else 0)) = fun w => ofK m a w (k + 1) := funext fun w => by rw [ofK_s, if_neg d, if_neg d]
            have e2 : alK m a k + (if m 154 k = (a : Int) then p else 0) = alK m a (k + 1) := by rw [alK_s, if_neg d, if_neg d]
            rw [e1, e2] at G
            exact G
          · have d' : m 154 k = (a : Int) := by omega
            rw [wordsLeft_e k rfl hk8, OK_bindE, OK_some, i8]
            simp only [hN, w32_id (z := (N : Int)) (by omega) (by omega), w32_id (z := (p : Int)) (by omega) (by omega)]
            refine OK_if (fun e => ?_) (fun e => ?_)
            · rw [OK_some, LQ_r]
              have hpN : p = N := by omega
              refine ⟨?_, gf⟩
              have e1 : (fun w => ofK m a w k + (if m 154 k = (a : Int) then ctW (fun p => m 157 (40 * k + p)) w p else 0)) = fun w => ofK m a w (k + 1) := funext fun w => by rw [ofK_s, if_pos d', if_pos d', hN, tn, hpN]
              have e2 : alK m a k + (if m 154 k = (a : Int) then p else 0) = alK m a (k + 1) := by rw [alK_s, if_pos d', if_pos d', hN, tn, hpN]
              rw [e1, e2] at G
              exact G
            · have c2 := b157 (40 * k + p)
              obtain ⟨w, hw⟩ := Int.eq_ofNat_of_zero_le c2.1
              rw [workWord_e (40 * k + p) (by omega) (by omega), OK_bindE, OK_some, i9, OK_bindE]
              refine OK_mono (addUse_s hw (by omega) G) (fun u hu => ?_)
              rw [OK_some, LQ_l]
              refine ⟨by omega, by omega, u, rfl, fun q => absurd d' q, ?_, fun e j q => by rw [hu.2 e j (fun r => q (Or.inl r)) (fun r => q (Or.inr r)), gf e j q]⟩
              have e1 : (fun v => ofK m a v k + (if m 154 k = (a : Int) then ctW (fun p => m 157 (40 * k + p)) v p else 0) + (if w = v then 1 else 0)) = fun v => ofK m a v k + (if m 154 k = (a : Int) then ctW (fun p => m 157 (40 * k + p)) v (p + 1) else 0) := funext fun v => by
                rw [if_pos d', if_pos d', ctW_s, hw]
                by_cases q : w = v
                · rw [if_pos q, if_pos (by rw [q]), Nat.add_assoc]
                · rw [if_neg q, if_neg (by omega), Nat.add_zero, Nat.add_zero]
              have e2 : alK m a k + (if m 154 k = (a : Int) then p else 0) + 1 = alK m a k + (if m 154 k = (a : Int) then p + 1 else 0) := by rw [if_pos d', if_pos d', Nat.add_assoc]
              have hu1 := hu.1
              rw [e1, e2] at hu1
              exact hu1
        · have e1 : (fun w => ofK m a w k + (if m 154 k = (a : Int) then ctW (fun p => m 157 (40 * k + p)) w 0 else 0)) = fun w => ofK m a w k := funext fun w => by
            rw [show ctW (fun p => m 157 (40 * k + p)) w 0 = 0 from rfl]
            split <;> rfl
          have e2 : alK m a k + (if m 154 k = (a : Int) then 0 else 0) = alK m a k := by split <;> rfl
          rw [e1, e2]
          exact H
        · rw [OK_some, LQ_l]
          exact ⟨by omega, by omega, g, rfl, hg⟩
    · obtain ⟨H1, F1⟩ := hh1
      rw [OK_bindE]
      refine OK_mono (iter_up (fun i st => i ≤ n ∧ ∃ h : Hp, st = ((i : Int), h) ∧ UWx (fun w => ofK m a w nk + ofB m s a w i) (alK m a nk + alBu m s a i) h ∧ ∀ e j, ¬ cXU e j → h e j = x e j) (fun h => UWx (fun w => ofK m a w nk + ofB m s a w n) (alK m a nk + alBu m s a n) h ∧ ∀ e j, ¬ cXU e j → h e j = x e j) n (by omega) (fun i st hi hI => ?_) ⟨Nat.zero_le _, h1, rfl, H1, F1⟩) (fun z hz => by rw [OK_some]; exact hz)
      obtain ⟨-, h, rfl, H, hf⟩ := hI
      have Rh : RS h m := RS_cU hf R
      obtain ⟨⟨⟨-, -, -, i311⟩, -, ⟨-, i13, -, -, i16⟩, -⟩, -⟩ := id Rh
      unfold X0_gatherUses_l49 X0_gatherUses_j68 X0_gatherUses_j69 X7_bits
      dsimp only
      rw [OK_bindE, OK_some]
      simp only [i311, hn, w32_id (z := (n : Int)) (by omega) (by omega), w32_id (z := (i : Int)) (by omega) (by omega), w32_id (z := (s : Int)) (by omega) (by omega)]
      refine OK_if (fun c => ?_) (fun c => ?_)
      · rw [OK_some, LQ_r]
        have : i = n := by omega
        subst this
        exact ⟨H, hf⟩
      · have c1 := b161 i
        have c4 := b164 i
        have cb := bb i (by omega)
        obtain ⟨N, hN⟩ := Int.eq_ofNat_of_zero_le c4.1
        have lz : ¬ (i ≠ s ∧ m 161 i ≠ -1 ∧ m 154 (m 161 i).toNat = (a : Int)) → OK ((iter (X0_gatherUses_l72 (a : Int) (s : Int) (i : Int) 0) FU (0, h)).bind fun x14 => some (Sum.inl ((i : Int) + 1, x14))) (LQ (fun (s' : Int × Hp) => i < n ∧ (i + 1 ≤ n ∧ ∃ h : Hp, s' = (((i + 1 : Nat) : Int), h) ∧ UWx (fun w => ofK m a w nk + ofB m s a w (i + 1)) (alK m a nk + alBu m s a (i + 1)) h ∧ ∀ e j, ¬ cXU e j → h e j = x e j)) (fun (h : Hp) => UWx (fun w => ofK m a w nk + ofB m s a w n) (alK m a nk + alBu m s a n) h ∧ ∀ e j, ¬ cXU e j → h e j = x e j)) := by
          intro hq
          rw [OK_bindE]
          refine OK_mono (iter_up (fun p st => st = (0, h)) (fun g => g = h) 0 (by omega) (fun p st hp hI => ?_) rfl) (fun g hg => ?_)
          · subst hI
            unfold X0_gatherUses_l72
            dsimp only
            exact OK_gd (by decide) (by rw [OK_some, LQ_r])
          · subst hg
            rw [OK_some, LQ_l]
            refine ⟨by omega, by omega, g, rfl, ?_, hf⟩
            have e1 : (fun w => ofK m a w nk + ofB m s a w (i + 1)) = fun w => ofK m a w nk + ofB m s a w i := funext fun w => by rw [ofB_s, if_neg hq, Nat.add_zero]
            rw [e1, alBu_s, if_neg hq, Nat.add_zero]
            exact H
        refine OK_if (fun d => lz (fun q => q.1 (by omega))) (fun d => ?_)
        rw [bitWork_in i (by omega) (by omega), OK_bindE, OK_some, i13, authorOf_s Rh ⟨by omega, by omega⟩, OK_bindE, OK_some]
        have cA := b154 (m 161 i).toNat
        by_cases d2 : 0 ≤ m 161 i ∧ m 161 i < m 150 3
        · rw [if_pos d2]
          simp only [w32_id (z := m 154 (m 161 i).toNat) (by omega) (by omega), w32_id (z := (a : Int)) (by omega) (by omega)]
          refine OK_if (fun e => lz (fun q => e q.2.2)) (fun e => ?_)
          have hq : i ≠ s ∧ m 161 i ≠ -1 ∧ m 154 (m 161 i).toNat = (a : Int) := ⟨fun r => d (by rw [r]), by omega, by omega⟩
          rw [OK_bindE]
          refine OK_mono (iter_up (fun p st => p ≤ N ∧ ∃ g : Hp, st = ((p : Int), g) ∧ UWx (fun w => ofK m a w nk + ofB m s a w i + ctW (fun p => m 165 (8 * i + p)) w p) (alK m a nk + alBu m s a i + p) g ∧ ∀ e j, ¬ cXU e j → g e j = x e j) (fun g => UWx (fun w => ofK m a w nk + ofB m s a w (i + 1)) (alK m a nk + alBu m s a (i + 1)) g ∧ ∀ e j, ¬ cXU e j → g e j = x e j) N (by omega) (fun p st hp hI => ?_) ⟨Nat.zero_le _, h, rfl, H, hf⟩) (fun g hg => ?_)
          · obtain ⟨-, g, rfl, G, gf⟩ := hI
            have Rg : RS g m := RS_cU gf R
            obtain ⟨⟨-, -, ⟨-, -, -, -, j16⟩, j17, -⟩, -⟩ := id Rg
            unfold X0_gatherUses_l72
            dsimp only
            refine OK_gn (by decide) ?_
            rw [bitSize_e i rfl (by omega), OK_bindE, OK_some, j16]
            simp only [hN, w32_id (z := (N : Int)) (by omega) (by omega), w32_id (z := (p : Int)) (by omega) (by omega)]
            refine OK_if (fun f => ?_) (fun f => ?_)
            · rw [OK_some, LQ_r]
              have hpN : p = N := by omega
              refine ⟨?_, gf⟩
              have e1 : (fun w => ofK m a w nk + ofB m s a w i + ctW (fun p => m 165 (8 * i + p)) w p) = fun w => ofK m a w nk + ofB m s a w (i + 1) := funext fun w => by rw [ofB_s, if_pos hq, hN, tn, hpN, Nat.add_assoc]
              have e2 : alK m a nk + alBu m s a i + p = alK m a nk + alBu m s a (i + 1) := by rw [alBu_s, if_pos hq, hN, tn, hpN, Nat.add_assoc]
              rw [e1, e2] at G
              exact G
            · have c2 := b165 (8 * i + p)
              obtain ⟨w, hw⟩ := Int.eq_ofNat_of_zero_le c2.1
              rw [bitWord_e (8 * i + p) (by omega) (by omega), OK_bindE, OK_some, j17 i p (by omega) (by omega), OK_bindE]
              refine OK_mono (addUse_s hw (by omega) G) (fun u hu => ?_)
              rw [OK_some, LQ_l]
              refine ⟨by omega, by omega, u, rfl, ?_, fun e j q => by rw [hu.2 e j (fun r => q (Or.inl r)) (fun r => q (Or.inr r)), gf e j q]⟩
              have e1 : (fun v => ofK m a v nk + ofB m s a v i + ctW (fun p => m 165 (8 * i + p)) v p + (if w = v then 1 else 0)) = fun v => ofK m a v nk + ofB m s a v i + ctW (fun p => m 165 (8 * i + p)) v (p + 1) := funext fun v => by
                rw [ctW_s, hw]
                by_cases q : w = v
                · rw [if_pos q, if_pos (by rw [q]), Nat.add_assoc]
                · rw [if_neg q, if_neg (by omega), Nat.add_zero, Nat.add_zero]
              have hu1 := hu.1
              rw [e1] at hu1
              exact hu1
          · rw [OK_some, LQ_l]
            exact ⟨by omega, by omega, g, rfl, hg⟩
        · rw [if_neg d2]
          refine OK_gd (by rw [show w32 (-1) = -1 from rfl, w32_id (z := (a : Int)) (by omega) (by omega)]; omega) (lz (fun q => by have := q.2.1; omega))
