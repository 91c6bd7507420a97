/-! WHAT FALLS BY LOT is the same from both sides -/
def fcl : Nat → Nat
  | 0 => 1
  | n + 1 => (n + 1) * fcl n
theorem fcl_s (n : Nat) : fcl (n + 1) = (n + 1) * fcl n := rfl
theorem fcl_p : ∀ n, 0 < fcl n := by
  intro n
  induction n with
  | zero => exact Nat.one_pos
  | succ n ih =>
    rw [fcl_s]
    exact Nat.mul_pos (by omega) ih
theorem chD_t2 : ∀ d i : Fin 41, d.val + i.val < 40 → chD d.val i.val * (d.val + (i.val + 1)) % (i.val + 1) = 0 := by decide +kernel
theorem chD_f (d : Nat) : ∀ i, d + i ≤ 40 → chD d i * (fcl d * fcl i) = fcl (d + i) := by
  intro i
  induction i with
  | zero =>
    intro _
    show 1 * (fcl d * 1) = fcl d
    rw [Nat.one_mul, Nat.mul_one]
  | succ i ih =>
    intro h
    have e := ih (by omega)
    have m := chD_t2 ⟨d, by omega⟩ ⟨i, by omega⟩ (by dsimp only; omega)
    dsimp only at m
    have q : chD d (i + 1) * (i + 1) = chD d i * (d + (i + 1)) := by
      rw [chD_s]
      exact Nat.div_mul_cancel (Nat.dvd_of_mod_eq_zero m)
    rw [show d + (i + 1) = d + i + 1 from rfl, fcl_s (d + i), ← e, fcl_s i]
    calc chD d (i + 1) * (fcl d * ((i + 1) * fcl i)) = (chD d (i + 1) * (i + 1)) * (fcl d * fcl i) := by
          rw [Nat.mul_left_comm (fcl d), Nat.mul_assoc]
      _ = (d + i + 1) * (chD d i * (fcl d * fcl i)) := by
          rw [q, show d + (i + 1) = d + i + 1 from rfl, Nat.mul_comm (chD d i), Nat.mul_assoc]
theorem chN_f {n k : Nat} (hn : n ≤ 40) (hk : k ≤ n) : chN n k * (fcl (n - k) * fcl k) = fcl n := by
  unfold chN
  rw [if_pos hk]
  have := chD_f (n - k) k (by omega)
  rw [show n - k + k = n from by omega] at this
  exact this
theorem chN_0 {n k : Nat} (h : n < k) : chN n k = 0 := by
  unfold chN
  rw [if_neg (by omega)]
theorem lot_t {n a b j : Nat} (hn : n ≤ 40) (ha : a ≤ n) (hb : b ≤ n) (hja : j ≤ a) (hjb : j ≤ b) : chN a j * chN (n - a) (b - j) * chN n a = chN b j * chN (n - b) (a - j) * chN n b := by
  by_cases c : b - j ≤ n - a
  · have e1 := chN_f (n := a) (k := j) (by omega) hja
    have e2 := chN_f (n := n - a) (k := b - j) (by omega) c
    have e3 := chN_f (n := n) (k := a) hn ha
    have f1 := chN_f (n := b) (k := j) (by omega) hjb
    have f2 := chN_f (n := n - b) (k := a - j) (by omega) (by omega)
    have f3 := chN_f (n := n) (k := b) hn hb
    rw [show n - b - (a - j) = n - a - (b - j) from by omega] at f2
    have pF : 0 < (fcl (a - j) * fcl j) * (fcl (n - a - (b - j)) * fcl (b - j)) := Nat.mul_pos (Nat.mul_pos (fcl_p _) (fcl_p _)) (Nat.mul_pos (fcl_p _) (fcl_p _))
    have L : chN a j * chN (n - a) (b - j) * chN n a * ((fcl (a - j) * fcl j) * (fcl (n - a - (b - j)) * fcl (b - j))) = fcl n := by
      rw [← e3, ← e1, ← e2]
      simp only [Nat.mul_assoc, Nat.mul_comm, Nat.mul_left_comm]
    have Rr : chN b j * chN (n - b) (a - j) * chN n b * ((fcl (a - j) * fcl j) * (fcl (n - a - (b - j)) * fcl (b - j))) = fcl n := by
      rw [← f3, ← f1, ← f2]
      simp only [Nat.mul_assoc, Nat.mul_comm, Nat.mul_left_comm]
    exact Nat.eq_of_mul_eq_mul_right pF (L.trans Rr.symm)
  · rw [chN_0 (n := n - a) (k := b - j) (by omega), chN_0 (n := n - b) (k := a - j) (by omega)]
    simp
theorem hyS_z {n a b c : Nat} : ∀ d t, (∀ i, t ≤ i → i < t + d → chN a (c + i) = 0) → hyS n a b c (t + d) = hyS n a b c t := by
  intro d
  induction d with
  | zero => intro t _; rfl
  | succ d ih =>
    intro t h
    rw [← Nat.add_assoc, hyS_s, ih t (fun i h1 h2 => h i h1 (by omega)), h (t + d) (by omega) (by omega), Nat.zero_mul, Nat.add_zero]
theorem hyS_m {n a b c : Nat} (hn : n ≤ 40) (ha : a ≤ n) (hb : b ≤ n) : ∀ t, c + t ≤ a + 1 → c + t ≤ b + 1 → hyS n a b c t * chN n a = hyS n b a c t * chN n b := by
  intro t
  induction t with
  | zero =>
    intro _ _
    show 0 * chN n a = 0 * chN n b
    rw [Nat.zero_mul, Nat.zero_mul]
  | succ t ih =>
    intro h1 h2
    rw [hyS_s, hyS_s, Nat.add_mul, Nat.add_mul, ih (by omega) (by omega), lot_t hn ha hb (by omega) (by omega)]
theorem lot_s {n a b c : Nat} (hn : n ≤ 40) (ha : a ≤ n) (hb : b ≤ n) (hca : c ≤ a) (hcb : c ≤ b) : hyS n a b c (b + 1 - c) * chN n a = hyS n b a c (a + 1 - c) * chN n b := by
  have M := Nat.min_le_left a b
  have N := Nat.min_le_right a b
  have Q : min a b = a ∨ min a b = b := by omega
  have e1 : hyS n a b c (b + 1 - c) = hyS n a b c (min a b + 1 - c) := by
    have := hyS_z (n := n) (a := a) (b := b) (c := c) (b - min a b) (min a b + 1 - c) (fun i h1 h2 => chN_0 (by omega))
    rw [show min a b + 1 - c + (b - min a b) = b + 1 - c from by omega] at this
    exact this
  have e2 : hyS n b a c (a + 1 - c) = hyS n b a c (min a b + 1 - c) := by
    have := hyS_z (n := n) (a := b) (b := a) (c := c) (a - min a b) (min a b + 1 - c) (fun i h1 h2 => chN_0 (by omega))
    rw [show min a b + 1 - c + (a - min a b) = a + 1 - c from by omega] at this
    exact this
  rw [e1, e2]
  exact hyS_m hn ha hb _ (by omega) (by omega)
/-- what is not above so many thousandths -/
theorem lot_le {S S' N N' t : Nat} (h : S * N' = S' * N) (hN : 0 < N) (hN' : 0 < N') : (S * 1000 ≤ t * N) ↔ (S' * 1000 ≤ t * N') := by
  have key : ∀ {S S' N N' : Nat}, S * N' = S' * N → 0 < N → 0 < N' → S * 1000 ≤ t * N → S' * 1000 ≤ t * N' := by
    intro S S' N N' h hN hN' q
    have q2 : S * 1000 * N' ≤ t * N * N' := Nat.mul_le_mul_right N' q
    have e1 : S * 1000 * N' = S' * 1000 * N := by
      rw [Nat.mul_right_comm, h, Nat.mul_right_comm]
    have e2 : t * N * N' = t * N' * N := Nat.mul_right_comm _ _ _
    rw [e1, e2] at q2
    exact Nat.le_of_mul_le_mul_right q2 hN
  exact ⟨key h hN hN', key h.symm hN' hN⟩
/-- a middle one must have been -/
def tkB (ww W V : Nat → Int) (t : Nat) : Bool := decide (0 < cnBt (shC ww W V) 40 ∧ hyS (cnBt (shN W V) 40) (cnBt (shA ww W V) 40) (cnBt (shB ww W V) 40) (cnBt (shC ww W V) 40) (cnBt (shB ww W V) 40 + 1 - cnBt (shC ww W V) 40) * 1000 ≤ t * chN (cnBt (shN W V) 40) (cnBt (shB ww W V) 40))
theorem tkB_sym (ww W V : Nat → Int) (t : Nat) : tkB ww W V t = tkB ww V W t := by
  have eN : cnBt (shN V W) 40 = cnBt (shN W V) 40 := cnBt_cg 40 (fun i _ => by unfold shN; rw [decide_eq_decide]; exact ⟨fun q => ⟨q.2, q.1⟩, fun q => ⟨q.2, q.1⟩⟩)
  have eA : cnBt (shA ww V W) 40 = cnBt (shB ww W V) 40 := cnBt_cg 40 (fun i _ => by unfold shA shB; rw [decide_eq_decide]; exact ⟨fun q => ⟨q.2.1, q.1, q.2.2⟩, fun q => ⟨q.2.1, q.1, q.2.2⟩⟩)
  have eB : cnBt (shB ww V W) 40 = cnBt (shA ww W V) 40 := cnBt_cg 40 (fun i _ => by unfold shA shB; rw [decide_eq_decide]; exact ⟨fun q => ⟨q.2.1, q.1, q.2.2⟩, fun q => ⟨q.2.1, q.1, q.2.2⟩⟩)
  have eC : cnBt (shC ww V W) 40 = cnBt (shC ww W V) 40 := cnBt_cg 40 (fun i _ => by unfold shC; rw [decide_eq_decide]; exact ⟨fun q => ⟨q.2.1, q.1, fun r => q.2.2.1 (q.2.2.2.trans r), q.2.2.2.symm⟩, fun q => ⟨q.2.1, q.1, fun r => q.2.2.1 (q.2.2.2.trans r), q.2.2.2.symm⟩⟩)
  have sl := sh_le ww W V 40
  have l40 := cnBt_le (shN W V) 40
  unfold tkB
  rw [eN, eA, eB, eC]
  generalize cnBt (shN W V) 40 = n at sl l40 ⊢
  generalize cnBt (shA ww W V) 40 = a at sl ⊢
  generalize cnBt (shB ww W V) 40 = b at sl ⊢
  generalize cnBt (shC ww W V) 40 = c at sl ⊢
  rw [decide_eq_decide]
  have e := lot_s (n := n) (a := a) (b := b) (c := c) l40 sl.1 sl.2.1 sl.2.2.1 sl.2.2.2
  have k := lot_le (t := t) e (chN_p l40 sl.2.1) (chN_p l40 sl.1)
  exact ⟨fun q => ⟨q.1, k.mp q.2⟩, fun q => ⟨q.1, k.mpr q.2⟩⟩
