/-! SHARED: what two writers have, counted -/
theorem cnBt_imp {f g : Nat → Bool} : ∀ n, (∀ i, i < n → f i = true → g i = true) → cnBt f n ≤ cnBt g n := by
  intro n
  induction n with
  | zero => intro _; exact Nat.le_refl _
  | succ n ih =>
    intro h
    have i := ih (fun i hi => h i (by omega))
    cases hf : f n with
    | false =>
      rw [cnBt_n hf]
      show cnBt f n ≤ cnBt g n + (if g n = true then 1 else 0)
      omega
    | true =>
      rw [cnBt_t hf, cnBt_t (h n (by omega) hf)]
      omega
/-- what a set of places counts -/
theorem cnBt_40 {v : Int} {f : Nat → Bool} (h : ∀ i, i < 64 → tb v i = (decide (i < 40) && f i)) : cnBt (tb v) 64 = cnBt f 40 := by
  have e := cnBt_ext (f := tb v) (n := 40) 24 (fun i h1 h2 => by rw [h i (by omega), decide_eq_false (by omega)]; rfl)
  rw [show 40 + 24 = 64 from rfl] at e
  rw [e]
  exact cnBt_cg 40 (fun i hi => by rw [h i (by omega), decide_eq_true hi]; rfl)
def shN (W V : Nat → Int) (p : Nat) : Bool := decide (W p ≠ -1 ∧ V p ≠ -1)
def shA (ww W V : Nat → Int) (p : Nat) : Bool := decide (W p ≠ -1 ∧ V p ≠ -1 ∧ W p ≠ ww p)
def shB (ww W V : Nat → Int) (p : Nat) : Bool := decide (W p ≠ -1 ∧ V p ≠ -1 ∧ V p ≠ ww p)
def shC (ww W V : Nat → Int) (p : Nat) : Bool := decide (W p ≠ -1 ∧ V p ≠ -1 ∧ W p ≠ ww p ∧ W p = V p)
theorem sh_le (ww W V : Nat → Int) (n : Nat) : cnBt (shA ww W V) n ≤ cnBt (shN W V) n ∧ cnBt (shB ww W V) n ≤ cnBt (shN W V) n ∧ cnBt (shC ww W V) n ≤ cnBt (shA ww W V) n ∧ cnBt (shC ww W V) n ≤ cnBt (shB ww W V) n := by
  unfold shA shB shC shN
  refine ⟨cnBt_imp n (fun i _ h => ?_), cnBt_imp n (fun i _ h => ?_), cnBt_imp n (fun i _ h => ?_), cnBt_imp n (fun i _ h => ?_)⟩ <;> rw [decide_eq_true_iff] at h ⊢
  · exact ⟨h.1, h.2.1⟩
  · exact ⟨h.1, h.2.1⟩
  · exact ⟨h.1, h.2.1, h.2.2.1⟩
  · exact ⟨h.1, h.2.1, fun q => h.2.2.1 (h.2.2.2.trans q)⟩
/-- the sum of what falls by lot -/
def hyS (n a b c : Nat) : Nat → Nat
  | 0 => 0
  | t + 1 => hyS n a b c t + chN a (c + t) * chN (n - a) (b - (c + t))
theorem hyS_s (n a b c t : Nat) : hyS n a b c (t + 1) = hyS n a b c t + chN a (c + t) * chN (n - a) (b - (c + t)) := rfl
theorem hyS_tb {n a b c t : Nat} (hn : n ≤ 40) (ha : a ≤ n) : chN a (c + t) * chN (n - a) (b - (c + t)) ≤ 1099511627776 := by
  have h1 := (chN_b (n := a) (k := c + t) (by omega)).1
  have h2 := (chN_b (n := n - a) (k := b - (c + t)) (by omega)).1
  have h3 := Nat.mul_le_mul h1 h2
  rw [← Nat.pow_add, show a + (n - a) = n from by omega] at h3
  have h4 : 2 ^ n ≤ 2 ^ 40 := Nat.pow_le_pow_right (by decide) hn
  have h5 : (2 : Nat) ^ 40 = 1099511627776 := by decide
  omega
theorem hyS_b {n a b c : Nat} (hn : n ≤ 40) (ha : a ≤ n) : ∀ t, hyS n a b c t ≤ t * 1099511627776 := by
  intro t
  induction t with
  | zero => exact Nat.le_refl _
  | succ t ih =>
    have := hyS_tb (b := b) (c := c) (t := t) hn ha
    rw [hyS_s, Nat.succ_mul]
    omega
theorem ofCommon_s {n a b c : Nat} {h : Hp} (hn : n ≤ 40) (ha : a ≤ n) (hb : b ≤ n) (hc : c ≤ b) : X4_ofCommon (n : Int) (a : Int) (b : Int) (c : Int) h = some (setH (setH h 52 0 ((hyS n a b c (b + 1 - c) / Nat.gcd (hyS n a b c (b + 1 - c)) (chN n b) : Nat) : Int)) 52 1 ((chN n b / Nat.gcd (hyS n a b c (b + 1 - c)) (chN n b) : Nat) : Int)) := by
  have key : OK (iter (X4_ofCommon_l4 (n : Int) (a : Int) (b : Int)) FU (0, (c : Int), h)) (fun z => z = (((hyS n a b c (b + 1 - c) : Nat) : Int), h)) := by
    refine iter_up (fun t s => t ≤ b + 1 - c ∧ s = (((hyS n a b c t : Nat) : Int), ((c + t : Nat) : Int), h)) _ (b + 1 - c) (by omega) (fun t s ht hI => ?_) ⟨Nat.zero_le _, rfl⟩
    obtain ⟨-, rfl⟩ := hI
    unfold X4_ofCommon_l4
    dsimp only
    simp only [w32_id (z := (b : Int)) (by omega) (by omega), w32_id (z := ((c + t : Nat) : Int)) (by omega) (by omega)]
    refine OK_if (fun d => ?_) (fun d => ?_)
    · rw [OK_some, LQ_r, show t = b + 1 - c from by omega]
    · have e1 : (n : Int) - (a : Int) = ((n - a : Nat) : Int) := by omega
      have e2 : (b : Int) - ((c + t : Nat) : Int) = ((b - (c + t) : Nat) : Int) := by omega
      rw [choose_s (by omega) (by omega), OK_bindE, OK_some, e1, e2, choose_s (by omega) (by omega), OK_bindE, OK_some, OK_some, LQ_l]
      exact ⟨by omega, by omega, by rw [hyS_s]; rfl⟩
  unfold X4_ofCommon
  obtain ⟨z, ez, hz⟩ := OK_ex key
  have hs := hyS_b (b := b) (c := c) hn ha (b + 1 - c)
  have hm : (b + 1 - c) * 1099511627776 ≤ 41 * 1099511627776 := Nat.mul_le_mul (by omega) (Nat.le_refl _)
  have hb1 := (chN_b (n := n) (k := b) hn).2
  rw [ez, hz, Option.bind_some, choose_s hn (by omega), Option.bind_some]
  dsimp only
  rw [reduce_s (by omega) (by omega) (chN_p hn hb), Option.bind_some]
/-- places at which both have the same SLIP -/
theorem alike_s {ww W V : Nat → Int} {h : Hp} (hW : ∀ p, -1 ≤ W p ∧ W p ≤ 63) (hV : ∀ p, -1 ≤ V p ∧ V p ≤ 63) (H : SLw ww W 62 h) (G : SLw ww V 64 h) : OK (X8_alikeWith h) (fun z => w64 z = z ∧ ∀ p, p < 64 → tb z p = (decide (p < 40) && decide (W p ≠ -1 ∧ W p ≠ ww p ∧ W p = V p))) := by
  unfold X8_alikeWith
  rw [OK_bindE]
  refine OK_mono (iter_up (fun p s => p ≤ 40 ∧ ∃ z : Int, s = (z, (p : Int)) ∧ w64 z = z ∧ ∀ q, q < 64 → tb z q = (decide (q < p) && decide (W q ≠ -1 ∧ W q ≠ ww q ∧ W q = V q))) (fun z => w64 z = z ∧ ∀ q, q < 64 → tb z q = (decide (q < 40) && decide (W q ≠ -1 ∧ W q ≠ ww q ∧ W q = V q))) 40 (by omega) (fun p s hp hI => ?_) ⟨Nat.zero_le _, 0, rfl, rfl, fun q _ => by rw [tb_0]; simp⟩) (fun z hz => hz)
  obtain ⟨-, z, rfl, hz, hb⟩ := hI
  unfold X8_alikeWith_l4 X8_alikeWith_j24
  dsimp only
  simp only [w32_id (z := (p : Int)) (by omega) (by omega), show w32 40 = 40 from rfl]
  refine OK_if (fun c => ?_) (fun c => ?_)
  · rw [OK_some, LQ_r]
    have : p = 40 := by omega
    subst this
    exact ⟨hz, hb⟩
  · have ip : I32 (p : Int) := ⟨by omega, by omega⟩
    have stay : ¬ (W p ≠ -1 ∧ W p ≠ ww p ∧ W p = V p) → LQ (fun s' => p < 40 ∧ (p + 1 ≤ 40 ∧ ∃ z : Int, s' = (z, ((p + 1 : Nat) : Int)) ∧ w64 z = z ∧ ∀ q, q < 64 → tb z q = (decide (q < p + 1) && decide (W q ≠ -1 ∧ W q ≠ ww q ∧ W q = V q)))) (fun z => w64 z = z ∧ ∀ q, q < 64 → tb z q = (decide (q < 40) && decide (W q ≠ -1 ∧ W q ≠ ww q ∧ W q = V q))) (Sum.inl (z, (p : Int) + 1)) := by
      intro hq
      rw [LQ_l]
      refine ⟨by omega, by omega, z, rfl, hz, fun q hq2 => ?_⟩
      rw [hb q hq2]
      by_cases e : q = p
      · subst e
        rw [decide_eq_false hq, Bool.and_false, Bool.and_false]
      · have : (q < p) ↔ (q < p + 1) := by omega
        simp [this]
    rw [isAt_s (by omega), OK_bindE, OK_some]
    by_cases d : W p ≠ -1 ∧ W p ≠ ww p
    · have hb1 : tb (h 62 4) p = true := by
        rw [H.2.1 p (by omega)]
        exact decide_eq_true ⟨by omega, d⟩
      rw [hb1]
      refine OK_gn (by decide) ?_
      rw [wordPut_s ip H, OK_bindE, OK_some, wordPut_s ip G, OK_bindE, OK_some, tn, if_pos (show 0 ≤ (p : Int) ∧ (p : Int) < 40 ∧ W p ≠ -1 ∧ W p ≠ ww p from ⟨by omega, by omega, d⟩)]
      have bW := hW p
      have bV := hV p
      simp only [w32_id (z := W p) (by omega) (by omega)]
      by_cases f : V p ≠ -1 ∧ V p ≠ ww p
      · rw [if_pos (show 0 ≤ (p : Int) ∧ (p : Int) < 40 ∧ V p ≠ -1 ∧ V p ≠ ww p from ⟨by omega, by omega, f⟩)]
        simp only [w32_id (z := V p) (by omega) (by omega)]
        refine OK_if (fun g => ?_) (fun g => ?_)
        · rw [OK_some]
          exact stay (fun q => g q.2.2)
        · rw [OK_some, LQ_l]
          refine ⟨by omega, by omega, _, rfl, w64_or _ _, fun q hq2 => ?_⟩
          rw [tb_or, hb q hq2, tb_shl (by omega) hq2]
          by_cases e : q = p
          · subst e
            rw [decide_eq_true (show W q ≠ -1 ∧ W q ≠ ww q ∧ W q = V q from ⟨d.1, d.2, by omega⟩)]
            simp
          · have : (q < p) ↔ (q < p + 1) := by omega
            simp [this, e]
      · rw [if_neg (show ¬ (0 ≤ (p : Int) ∧ (p : Int) < 40 ∧ V p ≠ -1 ∧ V p ≠ ww p) from fun q => f q.2.2)]
        refine OK_gd (by rw [show w32 (-1) = -1 from rfl]; exact d.1) ?_
        rw [OK_some]
        exact stay (fun q => f (by rw [← q.2.2]; exact d))
    · have hb1 : tb (h 62 4) p = false := by
        rw [H.2.1 p (by omega)]
        exact decide_eq_false (fun q => d q.2)
      rw [hb1]
      refine OK_gd (by decide) ?_
      rw [OK_some]
      exact stay (fun q => d ⟨q.1, q.2.1⟩)
/-- the cells that the copies write -/
def cXK (a : Nat) : Prop := (54 ≤ a ∧ a ≤ 58) ∨ (61 ≤ a ∧ a ≤ 65) ∨ a = 52
theorem RS_cK {x z m : Hp} (hz : ∀ a j, ¬ cXK a → z a j = x a j) (R : RS x m) : RS z m := RS_cg (fun a j h => hz a j (by unfold cXS at h; unfold cXK; omega)) (fun _ _ _ => rfl) R
theorem gatherK {x m : Hp} (R : RS x m) (C : RC x m) {s wr k n : Nat} (hs : s = 62 ∨ s = 64) (hn : m 150 5 = (n : Int)) (hwr : wr < 1000) (hk : k < 8) (hl : 1 ≤ m 156 k) : OK (X8_gather s (wr : Int) (k : Int) x) (fun z => SLw (fun p => m 157 (40 * k + p)) (hwF m k wr n) s z ∧ RC z m ∧ ∀ a j, ¬ cXG s a j → z a j = x a j) := gather_s R C hs hn hwr hk hl
/-- what COMPARE leaves -/
def CPk (ww W V : Nat → Int) (z : Hp) : Prop :=
  (z 61 4 = ((cnBt (shN W V) 40 : Nat) : Int) ∧ z 61 5 = ((cnBt (shA ww W V) 40 : Nat) : Int) ∧ z 61 6 = ((cnBt (shB ww W V) 40 : Nat) : Int) ∧ z 61 7 = ((cnBt (shC ww W V) 40 : Nat) : Int)) ∧
  (z 52 0 = ((hyS (cnBt (shN W V) 40) (cnBt (shA ww W V) 40) (cnBt (shB ww W V) 40) (cnBt (shC ww W V) 40) (cnBt (shB ww W V) 40 + 1 - cnBt (shC ww W V) 40) / Nat.gcd (hyS (cnBt (shN W V) 40) (cnBt (shA ww W V) 40) (cnBt (shB ww W V) 40) (cnBt (shC ww W V) 40) (cnBt (shB ww W V) 40 + 1 - cnBt (shC ww W V) 40)) (chN (cnBt (shN W V) 40) (cnBt (shB ww W V) 40)) : Nat) : Int) ∧
   z 52 1 = ((chN (cnBt (shN W V) 40) (cnBt (shB ww W V) 40) / Nat.gcd (hyS (cnBt (shN W V) 40) (cnBt (shA ww W V) 40) (cnBt (shB ww W V) 40) (cnBt (shC ww W V) 40) (cnBt (shB ww W V) 40 + 1 - cnBt (shC ww W V) 40)) (chN (cnBt (shN W V) 40) (cnBt (shB ww W V) 40)) : Nat) : Int))
theorem compare_s {x m : Hp} (R : RS x m) (C : RC x m) {a b k n : Nat} (hn : m 150 5 = (n : Int)) (ha : a < 1000) (hb : b < 1000) (hk : k < 8) (hl : 1 ≤ m 156 k) : OK (X2_compare (a : Int) (b : Int) (k : Int) x) (fun z => CPk (fun p => m 157 (40 * k + p)) (hwF m k a n) (hwF m k b n) z ∧ RC z m ∧ ∀ e j, ¬ cXK e → z e j = x e j) := by
  obtain ⟨-, S⟩ := id R
  have b5 := S.1.2.2.2
  have hwb : ∀ wr p, -1 ≤ hwF m k wr n p ∧ hwF m k wr n p ≤ 63 := fun wr p => by
    have := (hwF_bd S (wr := wr) hl n (by omega) p).1
    omega
  unfold X2_compare
  rw [OK_bindE]
  refine OK_mono (gather_s R C (s := 62) (wr := a) (Or.inl rfl) hn ha hk hl) (fun y hy => ?_)
  obtain ⟨y1, yC, yf⟩ := hy
  have Ry : RS y m := RS_cG (Or.inl rfl) yf R
  rw [OK_bindE]
  refine OK_mono (gather_s Ry yC (s := 64) (wr := b) (Or.inr rfl) hn hb hk hl) (fun z hz => ?_)
  obtain ⟨z1, zC, zf⟩ := hz
  have y2 : SLw (fun p => m 157 (40 * k + p)) (hwF m k a n) 62 z := SLw_cg (zf 62 3 (by unfold cXG; omega)) (zf 62 4 (by unfold cXG; omega)) (funext fun j => zf 63 j (by unfold cXG; omega)) y1
  have hW := hwb a
  have hV := hwb b
  generalize hwF m k a n = W at y2 hW ⊢
  generalize hwF m k b n = V at z1 hV ⊢
  have c5 : cnBt (tb (and64 (z 62 3) (z 64 3))) 64 = cnBt (shN W V) 40 := cnBt_40 (fun i hi => by
    rw [tb_and, y2.1 i hi, z1.1 i hi]
    unfold shN
    by_cases c : i < 40 <;> simp [c])
  have c7 : cnBt (tb (and64 (z 62 4) (and64 (z 62 3) (z 64 3)))) 64 = cnBt (shA (fun p => m 157 (40 * k + p)) W V) 40 := cnBt_40 (fun i hi => by
    rw [tb_and, tb_and, y2.1 i hi, z1.1 i hi, y2.2.1 i hi]
    unfold shA
    by_cases c : i < 40
    · rw [Bool.eq_iff_iff]
      simp only [Bool.and_eq_true, decide_eq_true_iff]
      exact ⟨fun q => ⟨c, q.1.2.1, q.2.2.2, q.1.2.2⟩, fun q => ⟨⟨c, q.2.1, q.2.2.2⟩, ⟨c, q.2.1⟩, ⟨c, q.2.2.1⟩⟩⟩
    · simp [c])
  have c9 : cnBt (tb (and64 (z 64 4) (and64 (z 62 3) (z 64 3)))) 64 = cnBt (shB (fun p => m 157 (40 * k + p)) W V) 40 := cnBt_40 (fun i hi => by
    rw [tb_and, tb_and, y2.1 i hi, z1.1 i hi, z1.2.1 i hi]
    unfold shB
    by_cases c : i < 40
    · rw [Bool.eq_iff_iff]
      simp only [Bool.and_eq_true, decide_eq_true_iff]
      exact ⟨fun q => ⟨c, q.2.1.2, q.1.2.1, q.1.2.2⟩, fun q => ⟨⟨c, q.2.2.1, q.2.2.2⟩, ⟨c, q.2.1⟩, ⟨c, q.2.2.1⟩⟩⟩
    · simp [c])
  unfold X8_places X8_marks
  simp (disch := decide) only [Option.bind_some, bitCount_s, setH_o, c5, c7, c9]
  generalize hg : setH (setH (setH z 61 4 ((cnBt (shN W V) 40 : Nat) : Int)) 61 5 ((cnBt (shA (fun p => m 157 (40 * k + p)) W V) 40 : Nat) : Int)) 61 6 ((cnBt (shB (fun p => m 157 (40 * k + p)) W V) 40 : Nat) : Int) = g
  have gf : ∀ e, e ≠ 61 → g e = z e := fun e he => by rw [← hg, setH_o he, setH_o he, setH_o he]
  have g1 : SLw (fun p => m 157 (40 * k + p)) W 62 g := SLw_cg (congrFun (gf 62 (by decide)) 3) (congrFun (gf 62 (by decide)) 4) (gf 63 (by decide)) y2
  have g2 : SLw (fun p => m 157 (40 * k + p)) V 64 g := SLw_cg (congrFun (gf 64 (by decide)) 3) (congrFun (gf 64 (by decide)) 4) (gf 65 (by decide)) z1
  rw [OK_bindE]
  refine OK_mono (alike_s hW hV g1 g2) (fun u hu => ?_)
  have c11 : cnBt (tb u) 64 = cnBt (shC (fun p => m 157 (40 * k + p)) W V) 40 := cnBt_40 (fun i hi => by
    rw [hu.2 i hi]
    unfold shC
    rw [Bool.eq_iff_iff]
    simp only [Bool.and_eq_true, decide_eq_true_iff]
    exact ⟨fun q => ⟨q.1, q.2.1, by rw [← q.2.2.2]; exact q.2.1, q.2.2⟩, fun q => ⟨q.1, q.2.1, q.2.2.2⟩⟩)
  have sl := sh_le (fun p => m 157 (40 * k + p)) W V 40
  have l40 := cnBt_le (shN W V) 40
  rw [OK_bindE, c11, ofCommon_s (by omega) (by omega) (by omega) (by omega), OK_some, OK_some]
  refine ⟨⟨⟨?_, ?_, ?_, ?_⟩, ?_, ?_⟩, ?_, fun e j he => ?_⟩
  · rw [setH_o (by decide), setH_o (by decide), setH_n (by decide), ← hg, setH_n (by decide), setH_n (by decide), setH_s]
  · rw [setH_o (by decide), setH_o (by decide), setH_n (by decide), ← hg, setH_n (by decide), setH_s]
  · rw [setH_o (by decide), setH_o (by decide), setH_n (by decide), ← hg, setH_s]
  · rw [setH_o (by decide), setH_o (by decide), setH_s]
  · rw [setH_n (by decide), setH_s]
  · rw [setH_s]
  · exact RC_cg (fun e j h => by
      unfold cXC at h
      rw [setH_o (by omega), setH_o (by omega), setH_o (by omega), gf e (by omega)]) (Int.le_refl _) (fun _ _ _ _ _ => ⟨rfl, rfl⟩) zC
  · unfold cXK at he
    rw [setH_o (by omega), setH_o (by omega), setH_o (by omega), gf e (by omega), zf e j (by unfold cXG; omega), yf e j (by unfold cXG; omega)]
