/-! WHOSE on both sides -/
def bsF (P : Nat → Int) : Nat → Nat
  | 0 => 0
  | a + 1 => if P (bsF P a) < P (a + 1) then a + 1 else bsF P a
def ldF (P : Nat → Int) : Nat → Int
  | 0 => -1
  | a + 1 => if P (bsF P a) < P (a + 1) then P (a + 1) - P (bsF P a) else if ldF P a = -1 ∨ P (bsF P a) - P (a + 1) < ldF P a then P (bsF P a) - P (a + 1) else ldF P a
def nxF (P : Nat → Int) (b : Nat) : Nat → Int
  | 0 => -1
  | a + 1 => if a ≠ b ∧ (nxF P b a = -1 ∨ P (nxF P b a).toNat < P a) then (a : Int) else nxF P b a
theorem bsF_s (P : Nat → Int) (a : Nat) : bsF P (a + 1) = if P (bsF P a) < P (a + 1) then a + 1 else bsF P a := rfl
theorem ldF_s (P : Nat → Int) (a : Nat) : ldF P (a + 1) = if P (bsF P a) < P (a + 1) then P (a + 1) - P (bsF P a) else if ldF P a = -1 ∨ P (bsF P a) - P (a + 1) < ldF P a then P (bsF P a) - P (a + 1) else ldF P a := rfl
theorem nxF_s (P : Nat → Int) (b a : Nat) : nxF P b (a + 1) = if a ≠ b ∧ (nxF P b a = -1 ∨ P (nxF P b a).toNat < P a) then (a : Int) else nxF P b a := rfl
theorem bsF_m (P : Nat → Int) : ∀ a, bsF P a ≤ a ∧ ∀ c, c ≤ a → P c ≤ P (bsF P a) := by
  intro a
  induction a with
  | zero =>
    refine ⟨Nat.le_refl _, fun c hc => ?_⟩
    have : c = 0 := by omega
    subst this
    exact Int.le_refl _
  | succ a ih =>
    rw [bsF_s]
    by_cases d : P (bsF P a) < P (a + 1)
    · rw [if_pos d]
      refine ⟨Nat.le_refl _, fun c hc => ?_⟩
      by_cases e : c = a + 1
      · subst e
        exact Int.le_refl _
      · have := ih.2 c (by omega)
        omega
    · rw [if_neg d]
      refine ⟨by omega, fun c hc => ?_⟩
      by_cases e : c = a + 1
      · subst e
        omega
      · exact ih.2 c (by omega)
theorem ldF_m (P : Nat → Int) : ∀ a, (a = 0 ∧ ldF P a = -1) ∨ (1 ≤ a ∧ 0 ≤ ldF P a ∧ ∃ c, c ≤ a ∧ c ≠ bsF P a ∧ ldF P a = P (bsF P a) - P c ∧ ∀ d, d ≤ a → d ≠ bsF P a → P d ≤ P c) := by
  intro a
  induction a with
  | zero => exact Or.inl ⟨rfl, rfl⟩
  | succ a ih =>
    right
    have bm := bsF_m P a
    rw [ldF_s, bsF_s]
    by_cases d : P (bsF P a) < P (a + 1)
    · rw [if_pos d, if_pos d]
      refine ⟨by omega, by omega, bsF P a, by omega, by omega, rfl, fun e he hne => bm.2 e (by omega)⟩
    · rw [if_neg d, if_neg d]
      rcases ih with ⟨h0, h1⟩ | ⟨h0, h1, c, h2, h3, h4, h5⟩
      · rw [if_pos (Or.inl h1)]
        subst h0
        refine ⟨by omega, by omega, 1, by omega, by show 1 ≠ 0; omega, rfl, fun e he hne => ?_⟩
        have : e = 1 := by
          change e ≠ 0 at hne
          omega
        subst this
        exact Int.le_refl _
      · by_cases f : P (bsF P a) - P (a + 1) < ldF P a
        · rw [if_pos (Or.inr f)]
          refine ⟨by omega, by omega, a + 1, by omega, by omega, rfl, fun e he hne => ?_⟩
          by_cases g : e = a + 1
          · subst g
            exact Int.le_refl _
          · have := h5 e (by omega) hne
            omega
        · rw [if_neg (fun q => by rcases q with q | q <;> omega)]
          refine ⟨by omega, h1, c, by omega, h3, h4, fun e he hne => ?_⟩
          by_cases g : e = a + 1
          · subst g
            omega
          · exact h5 e (by omega) hne
theorem nxF_m (P : Nat → Int) (b : Nat) : ∀ a, (nxF P b a = -1 ∧ ∀ c, c < a → c = b) ∨ (∃ c : Nat, c < a ∧ c ≠ b ∧ nxF P b a = (c : Int) ∧ ∀ d, d < a → d ≠ b → P d ≤ P c) := by
  intro a
  induction a with
  | zero => exact Or.inl ⟨rfl, fun c hc => by omega⟩
  | succ a ih =>
    rw [nxF_s]
    by_cases e : a = b
    · rw [if_neg (fun q => q.1 e)]
      rcases ih with ⟨h0, h1⟩ | ⟨c, h2, h3, h4, h5⟩
      · left
        refine ⟨h0, fun c hc => ?_⟩
        by_cases q : c = a
        · rw [q, e]
        · exact h1 c (by omega)
      · right
        refine ⟨c, by omega, h3, h4, fun d hd hne => h5 d (by omega) hne⟩
    · right
      rcases ih with ⟨h0, h1⟩ | ⟨c, h2, h3, h4, h5⟩
      · rw [if_pos ⟨e, Or.inl h0⟩]
        refine ⟨a, by omega, e, rfl, fun d hd hne => ?_⟩
        by_cases q : d = a
        · rw [q]
          exact Int.le_refl _
        · exact absurd (h1 d (by omega)) hne
      · rw [h4, tn]
        by_cases f : P c < P a
        · rw [if_pos ⟨e, Or.inr f⟩]
          refine ⟨a, by omega, e, rfl, fun d hd hne => ?_⟩
          by_cases q : d = a
          · rw [q]
            exact Int.le_refl _
          · have := h5 d (by omega) hne
            omega
        · rw [if_neg (fun q => by rcases q.2 with r | r <;> omega)]
          refine ⟨c, by omega, h3, rfl, fun d hd hne => ?_⟩
          by_cases q : d = a
          · rw [q]
            omega
          · exact h5 d (by omega) hne
/-- by how much one is ahead of the next -/
theorem lead_eq (P : Nat → Int) (B : Nat) : ldF P B = if nxF P (bsF P B) (B + 1) = -1 then -1 else P (bsF P B) - P (nxF P (bsF P B) (B + 1)).toNat := by
  rcases nxF_m P (bsF P B) (B + 1) with ⟨h0, h1⟩ | ⟨c, h2, h3, h4, h5⟩
  · rw [if_pos h0]
    rcases ldF_m P B with ⟨g0, g1⟩ | ⟨g0, g1, c, g2, g3, -, -⟩
    · exact g1
    · exact absurd (h1 c (by omega)) g3
  · rw [h4, if_neg (by omega), tn]
    rcases ldF_m P B with ⟨g0, g1⟩ | ⟨g0, g1, d, g2, g3, g4, g5⟩
    · have b := (bsF_m P B).1
      omega
    · have k1 := g5 c (by omega) h3
      have k2 := h5 d (by omega) g3
      omega
theorem judge_s {x m : Hp} (R : RS x m) (X : TX x m 36 9) (K : CKm m) (W : RLh x) {s n nk B : Nat} (hn : m 150 5 = (n : Int)) (hnk : m 150 3 = (nk : Int)) (hna : m 150 2 = ((B + 1 : Nat) : Int)) (hs : s < n) : OK (X0_judge (s : Int) x) (fun z => (z 77 4 = ((bsF (fun a => ptF m s a n nk (m 164 s).toNat) B : Nat) : Int) ∧ z 77 5 = ptF m s (bsF (fun a => ptF m s a n nk (m 164 s).toNat) B) n nk (m 164 s).toNat ∧ z 77 6 = ldF (fun a => ptF m s a n nk (m 164 s).toNat) B) ∧ RLh z ∧ ∀ e j, ¬ cXH e j → z e j = x e j) := by
  obtain ⟨-, S⟩ := id R
  obtain ⟨⟨b2, b3, b4, b5⟩, -, -, -, ⟨b164, -⟩, -⟩ := id S
  have c4 := b164 s
  have pb : ∀ a, -8000 ≤ ptF m s a n nk (m 164 s).toNat ∧ ptF m s a n nk (m 164 s).toNat ≤ 8000 := fun a => by
    have := ptF_b S X K (s := s) (a := a) (n := n) (nk := nk) (by omega) (by omega) (m 164 s).toNat (by omega)
    omega
  generalize hP : (fun a => ptF m s a n nk (m 164 s).toNat) = P
  have eP : ∀ a, ptF m s a n nk (m 164 s).toNat = P a := fun a => by rw [← hP]
  have pb2 : ∀ a, -8000 ≤ P a ∧ P a ≤ 8000 := fun a => by rw [← eP]; exact pb a
  rw [eP]
  unfold X0_judge
  rw [OK_bindE]
  refine OK_mono (iter_up (fun a st => a ≤ B + 1 ∧ ∃ h : Hp, st = ((a : Int), h) ∧ ((a = 0 ∧ h 77 6 = -1) ∨ ∃ b, a = b + 1 ∧ h 77 4 = ((bsF P b : Nat) : Int) ∧ h 77 5 = P (bsF P b) ∧ h 77 6 = ldF P b) ∧ RLh h ∧ ∀ e j, ¬ cXH e j → h e j = x e j) (fun z => (z 77 4 = ((bsF P B : Nat) : Int) ∧ z 77 5 = P (bsF P B) ∧ z 77 6 = ldF P B) ∧ RLh z ∧ ∀ e j, ¬ cXH e j → z e j = x e j) (B + 1) (by omega) (fun a st ha hI => ?_) ⟨Nat.zero_le _, _, rfl, Or.inl ⟨rfl, by rw [setH_s]⟩, ?_, fun e j q => ?_⟩) (fun z hz => by rw [OK_some]; exact hz)
  · obtain ⟨-, h, rfl, hc, hW, hf⟩ := hI
    have Rh : RS h m := RS_cH hf R
    have Xh : TX h m 36 9 := TX_cH hf X
    obtain ⟨⟨⟨i30, -, -, -⟩, -⟩, -⟩ := id Rh
    unfold X0_judge_l11 X0_judge_j58 X0_judge_j64 X7_authors
    dsimp only
    rw [OK_bindE, OK_some]
    simp only [i30, hna, w32_id (z := ((B + 1 : Nat) : Int)) (by omega) (by omega), w32_id (z := (a : Int)) (by omega) (by omega)]
    refine OK_if (fun c => ?_) (fun c => ?_)
    · rw [OK_some, LQ_r]
      rcases hc with ⟨h0, -⟩ | ⟨b, rfl, k1, k2, k3⟩
      · omega
      · have : b = B := by omega
        subst this
        exact ⟨⟨k1, k2, k3⟩, hW, hf⟩
    · rw [OK_bindE]
      refine OK_mono (ptsX_s Rh Xh K hW hn hnk (a := a) (by omega) hs) (fun z hz => ?_)
      obtain ⟨z1, zW, zf⟩ := hz
      rw [eP] at z1
      have z4 : z.2 77 4 = h 77 4 := zf 77 4 (by omega) (by decide) (by decide) (by decide) (by omega)
      have z5 : z.2 77 5 = h 77 5 := zf 77 5 (by omega) (by decide) (by decide) (by decide) (by omega)
      have z6 : z.2 77 6 = h 77 6 := zf 77 6 (by omega) (by decide) (by decide) (by decide) (by omega)
      have zx : ∀ e j, ¬ cXH e j → z.2 e j = x e j := fun e j q => by
        unfold cXH at q
        rw [zf e j (by omega) (by omega) (by omega) (by omega) (by omega), hf e j (by unfold cXH; omega)]
      have fin : ∀ v : Hp, (∀ e j, ¬ (e = 77 ∧ 4 ≤ j ∧ j ≤ 6) → v e j = z.2 e j) → (v 77 4 = ((bsF P a : Nat) : Int) ∧ v 77 5 = P (bsF P a) ∧ v 77 6 = ldF P a) → LQ (fun (s' : Int × Hp) => a < B + 1 ∧ (a + 1 ≤ B + 1 ∧ ∃ h : Hp, s' = (((a + 1 : Nat) : Int), h) ∧ ((a + 1 = 0 ∧ h 77 6 = -1) ∨ ∃ b, a + 1 = b + 1 ∧ h 77 4 = ((bsF P b : Nat) : Int) ∧ h 77 5 = P (bsF P b) ∧ h 77 6 = ldF P b) ∧ RLh h ∧ ∀ e j, ¬ cXH e j → h e j = x e j)) (fun (z : Hp) => (z 77 4 = ((bsF P B : Nat) : Int) ∧ z 77 5 = P (bsF P B) ∧ z 77 6 = ldF P B) ∧ RLh z ∧ ∀ e j, ¬ cXH e j → z e j = x e j) (Sum.inl ((a : Int) + 1, v)) := by
        intro v vf hv
        rw [LQ_l]
        refine ⟨by omega, by omega, v, rfl, Or.inr ⟨a, rfl, hv⟩, ?_, fun e j q => by rw [vf e j (fun r => q (by unfold cXH; omega)), zx e j q]⟩
        unfold RLh at zW ⊢
        rw [show v 42 = z.2 42 from funext fun j => vf 42 j (by omega)]
        exact zW
      have pa := pb2 a
      rw [z1]
      rcases hc with ⟨rfl, h6⟩ | ⟨b, rfl, k1, k2, k3⟩
      · refine OK_gn (fun q => q rfl) ?_
        rw [OK_some]
        refine fin _ (fun e j q => by rw [setH_f (by omega), setH_f (by omega)]) ⟨?_, ?_, ?_⟩
        · rw [setH_n (by decide), setH_s]
          rfl
        · rw [setH_s]
          rfl
        · rw [setH_n (by decide), setH_n (by decide), z6, h6]
          rfl
      · have pbb := pb2 (bsF P b)
        have lm : -1 ≤ ldF P b ∧ ldF P b ≤ 16000 := by
          rcases ldF_m P b with ⟨g0, g1⟩ | ⟨g0, g1, d, g2, g3, g4, g5⟩
          · omega
          · have := pb2 d
            omega
        refine OK_gd (by omega) ?_
        simp only [z5, z6, k2, k3, w32_id (z := P (b + 1)) (by omega) (by omega), w32_id (z := P (bsF P b)) (by omega) (by omega), w32_id (z := ldF P b) (by omega) (by omega), w32_id (z := P (bsF P b) - P (b + 1)) (by omega) (by omega), show w32 (-1) = -1 from rfl]
        refine OK_if (fun d => OK_if (fun e => ?_) (fun e => OK_if (fun f => ?_) (fun f => ?_))) (fun d => ?_)
        · rw [OK_some]
          refine fin _ (fun e j q => by rw [setH_f (by omega)]) ⟨?_, ?_, ?_⟩
          · rw [setH_n (by decide), z4, k1, bsF_s, if_neg (by omega)]
          · rw [setH_n (by decide), z5, k2, bsF_s, if_neg (by omega)]
          · rw [setH_s, ldF_s, if_neg (by omega), if_pos (Or.inl e)]
        · rw [OK_some]
          refine fin _ (fun e j q => rfl) ⟨?_, ?_, ?_⟩
          · rw [z4, k1, bsF_s, if_neg (by omega)]
          · rw [z5, k2, bsF_s, if_neg (by omega)]
          · rw [z6, k3, ldF_s, if_neg (by omega), if_neg (fun q => by rcases q with r | r <;> omega)]
        · rw [OK_some]
          refine fin _ (fun e j q => by rw [setH_f (by omega)]) ⟨?_, ?_, ?_⟩
          · rw [setH_n (by decide), z4, k1, bsF_s, if_neg (by omega)]
          · rw [setH_n (by decide), z5, k2, bsF_s, if_neg (by omega)]
          · rw [setH_s, ldF_s, if_neg (by omega), if_pos (Or.inr (by omega))]
        · rw [OK_some]
          refine fin _ (fun e j q => by rw [setH_f (by omega), setH_f (by omega), setH_f (by omega)]) ⟨?_, ?_, ?_⟩
          · rw [setH_n (by decide), setH_s, bsF_s, if_pos (by omega)]
          · rw [setH_s, bsF_s, if_pos (by omega)]
          · rw [setH_n (by decide), setH_n (by decide), setH_s, ldF_s, if_pos (by omega)]
  · unfold RLh at W ⊢
    rw [setH_o (by decide), setH_o (by decide), setH_o (by decide)]
    exact W
  · unfold cXH at q
    rw [setH_f (by omega), setH_f (by omega), setH_f (by omega)]
theorem whose_b {x m : Hp} (R : RS x m) (X : TX x m 36 9) (K : CKm m) (W : RLh x) {s c : Int} (hs : I32 s) (hc : I32 c) : OK (X11_whose s c x) (fun z => OK (X12_whose s c m) (fun w => z.1 = w.1 ∧ RLh z.2 ∧ (∀ e j, ¬ cXH e j → z.2 e j = x e j) ∧ ∀ e j, ¬ cMW e j → w.2 e j = m e j)) := by
  obtain ⟨⟨⟨e30, e33, e39, e311⟩, -⟩, S⟩ := id R
  obtain ⟨⟨b2, b3, b4, b5⟩, -, -, -, ⟨b164, -⟩, -⟩ := id S
  unfold X11_whose X12_whose X7_authors
  simp only [x_isB (h := x) (by omega) (by omega), m_isB (h := m) (by omega) (by omega), e311, e30, I32_w hs, I32_w hc, lies_in (a := c) (b := 0) (c := 2) (by have := hc.1; omega) (by have := hc.2; omega) (by omega) (by omega) (by omega) (by omega), Option.bind_some, w32_id (z := m 150 2) (by omega) (by omega)]
  have triv : ∀ (c : Prop), (-1000000 : Int) = -1000000 ∧ RLh x ∧ (∀ e j, ¬ cXH e j → x e j = x e j) ∧ ∀ e j, ¬ cMW e j → m e j = m e j := fun _ => ⟨rfl, W, fun _ _ _ => rfl, fun _ _ _ => rfl⟩
  by_cases d1 : 0 ≤ s ∧ s < m 150 5
  · simp only [if_pos d1, q1, if_false]
    by_cases d2 : m 150 2 = 0
    · rw [if_neg (fun q => q d2), if_pos d2, OK_some, OK_some]
      exact triv True
    · rw [if_pos d2, if_neg d2]
      obtain ⟨s, rfl⟩ := Int.eq_ofNat_of_zero_le d1.1
      obtain ⟨n, hn⟩ := Int.eq_ofNat_of_zero_le b5.1
      obtain ⟨nk, hnk⟩ := Int.eq_ofNat_of_zero_le b3.1
      obtain ⟨B, hB⟩ : ∃ B : Nat, m 150 2 = ((B + 1 : Nat) : Int) := ⟨(m 150 2).toNat - 1, by omega⟩
      have hs2 : s < n := by omega
      rw [OK_bindE]
      refine OK_mono (judge_s R X K W hn hnk hB hs2) (fun z hz => ?_)
      obtain ⟨⟨z4, z5, z6⟩, zW, zf⟩ := hz
      have c4 := b164 s
      have pb : ∀ a, -8000 ≤ ptF m s a n nk (m 164 s).toNat ∧ ptF m s a n nk (m 164 s).toNat ≤ 8000 := fun a => by
        have := ptF_b S X K (s := s) (a := a) (n := n) (nk := nk) (by omega) (by omega) (m 164 s).toNat (by omega)
        omega
      have pM : ∀ (a : Nat) (h : Hp), a < B + 1 → UWm (B + 1) (fun a w => ofK m a w nk + ofB m s a w n) (fun a => alK m a nk + alBu m s a n) h → (∀ e j, ¬ cMW e j → h e j = m e j) → OK (X12_pointsFor (s : Int) (a : Int) h) (fun z => z.1 = ptF m s a n nk (m 164 s).toNat ∧ UWm (B + 1) (fun a w => ofK m a w nk + ofB m s a w n) (fun a => alK m a nk + alBu m s a n) z.2 ∧ ∀ e j, ¬ cMW e j → z.2 e j = m e j) := fun a h ha hU hf => ptsM_s S X K hn hnk hB ha hs2 hU hf
      generalize hP : (fun a => ptF m s a n nk (m 164 s).toNat) = P at z4 z5 z6
      have eP : ∀ a, ptF m s a n nk (m 164 s).toNat = P a := fun a => by rw [← hP]
      rw [eP] at z5
      have bm := bsF_m P B
      have pbb : ∀ a, -8000 ≤ P a ∧ P a ≤ 8000 := fun a => by rw [← eP]; exact pb a
      unfold X0_likeliest X0_points X0_lead
      simp only [Option.bind_some, z4, z5, z6]
      by_cases d3 : 0 ≤ c ∧ c ≤ 2
      · simp only [if_pos d3, qn1, if_true]
        obtain ⟨h0, e0, H0, F0⟩ := OK_ex (usesM_s S (s := s) hn hnk hB (by omega))
        have F0' : ∀ e j, ¬ cMW e j → h0 e j = m e j := fun e j q => by
          unfold cMW at q
          exact F0 e j (by omega) (by omega)
        obtain ⟨y, ey, h1, rfl, H1, F1⟩ : ∃ y, iter (X12_whose_l22 (s : Int) c) FU (0, 1, h0) = some y ∧ ∃ h1 : Hp, y = (((bsF P B : Nat) : Int), h1) ∧ UWm (B + 1) (fun a w => ofK m a w nk + ofB m s a w n) (fun a => alK m a nk + alBu m s a n) h1 ∧ ∀ e j, ¬ cMW e j → h1 e j = m e j := OK_ex (by
          refine iter_up (fun b st => b ≤ B ∧ ∃ h : Hp, st = (((bsF P b : Nat) : Int), ((b + 1 : Nat) : Int), h) ∧ UWm (B + 1) (fun a w => ofK m a w nk + ofB m s a w n) (fun a => alK m a nk + alBu m s a n) h ∧ ∀ e j, ¬ cMW e j → h e j = m e j) _ B (by omega) (fun b st hb hI => ?_) ⟨Nat.zero_le _, h0, rfl, H0, F0'⟩
          obtain ⟨-, h, rfl, hU, hf⟩ := hI
          unfold X12_whose_l22 X12_whose_j38
          dsimp only
          simp only [hf 150 2 (by unfold cMW; omega), hB, w32_id (z := ((B + 1 : Nat) : Int)) (by omega) (by omega), w32_id (z := ((b + 1 : Nat) : Int)) (by omega) (by omega)]
          refine OK_if (fun d => ?_) (fun d => ?_)
          · rw [OK_some, LQ_r]
            have : b = B := by omega
            subst this
            exact ⟨h, rfl, hU, hf⟩
          · have bb := bsF_m P b
            obtain ⟨u, eu, u1, u2, u3⟩ := OK_ex (pM (b + 1) h (by omega) hU hf)
            obtain ⟨v, ev, v1, v2, v3⟩ := OK_ex (pM (bsF P b) u.2 (by omega) u2 u3)
            rw [eP] at u1 v1
            have pu := pbb (b + 1)
            have pv := pbb (bsF P b)
            rw [eu, OK_bindE, OK_some, ev, OK_bindE, OK_some]
            simp only [u1, v1, w32_id (z := P (b + 1)) (by omega) (by omega), w32_id (z := P (bsF P b)) (by omega) (by omega)]
            refine OK_if (fun e => ?_) (fun e => ?_)
            · rw [OK_some, LQ_l]
              exact ⟨by omega, by omega, v.2, by rw [bsF_s, if_neg (by omega)]; rfl, v2, v3⟩
            · rw [OK_some, LQ_l]
              exact ⟨by omega, by omega, v.2, by rw [bsF_s, if_pos (by omega)]; rfl, v2, v3⟩)
        rw [e0, Option.bind_some, ey, Option.bind_some]
        dsimp only
        have c3 : c = 0 ∨ c = 1 ∨ c = 2 := by omega
        rcases c3 with rfl | rfl | rfl
        · refine OK_gd rfl ?_
          rw [OK_some]
          refine OK_gn (by decide) (OK_gn (fun q => q rfl) ?_)
          rw [OK_some]
          exact ⟨rfl, zW, zf, F1⟩
        · refine OK_gn (by decide) (OK_gd rfl ?_)
          rw [OK_some]
          refine OK_gn (by decide) (OK_gd (by decide) ?_)
          obtain ⟨u, eu, u1, u2, u3⟩ := OK_ex (pM (bsF P B) h1 (by omega) H1 F1)
          rw [eP] at u1
          rw [eu, OK_bindE, OK_some, OK_some]
          exact ⟨u1.symm, zW, zf, u3⟩
        · refine OK_gn (by decide) (OK_gn (by decide) (OK_gd rfl ?_))
          rw [OK_some]
          refine OK_gd (by decide) ?_
          obtain ⟨y, ey, h2, rfl, H2, F2⟩ : ∃ y, iter (X12_whose_l57 (s : Int) (((bsF P B : Nat) : Int))) FU (-1, 0, h1) = some y ∧ ∃ h2 : Hp, y = (nxF P (bsF P B) (B + 1), h2) ∧ UWm (B + 1) (fun a w => ofK m a w nk + ofB m s a w n) (fun a => alK m a nk + alBu m s a n) h2 ∧ ∀ e j, ¬ cMW e j → h2 e j = m e j := OK_ex (by
            refine iter_up (fun b st => b ≤ B + 1 ∧ ∃ h : Hp, st = (nxF P (bsF P B) b, (b : Int), h) ∧ UWm (B + 1) (fun a w => ofK m a w nk + ofB m s a w n) (fun a => alK m a nk + alBu m s a n) h ∧ ∀ e j, ¬ cMW e j → h e j = m e j) _ (B + 1) (by omega) (fun b st hb hI => ?_) ⟨Nat.zero_le _, h1, rfl, H1, F1⟩
            obtain ⟨-, h, rfl, hU, hf⟩ := hI
            have nm : -1 ≤ nxF P (bsF P B) b ∧ nxF P (bsF P B) b < (B + 1 : Nat) := by
              rcases nxF_m P (bsF P B) b with ⟨q, -⟩ | ⟨c, q, -, r, -⟩ <;> omega
            unfold X12_whose_l57 X12_whose_j76 X12_whose_j78
            dsimp only
            simp only [hf 150 2 (by unfold cMW; omega), hB, w32_id (z := ((B + 1 : Nat) : Int)) (by omega) (by omega), w32_id (z := (b : Int)) (by omega) (by omega), w32_id (z := ((bsF P B : Nat) : Int)) (by omega) (by omega), w32_id (z := nxF P (bsF P B) b) (by omega) (by omega), show w32 (-1) = -1 from rfl]
            refine OK_if (fun d => ?_) (fun d => OK_if (fun e => ?_) (fun e => OK_if (fun f => ?_) (fun f => ?_)))
            · rw [OK_some, LQ_r]
              have : b = B + 1 := by omega
              subst this
              exact ⟨h, rfl, hU, hf⟩
            · rw [OK_some, LQ_l]
              exact ⟨by omega, by omega, h, by rw [nxF_s, if_neg (fun q => q.1 (by omega))]; rfl, hU, hf⟩
            · rw [OK_some, LQ_l]
              exact ⟨by omega, by omega, h, by rw [nxF_s, if_pos ⟨fun q => e (by rw [q]), Or.inl f⟩]; rfl, hU, hf⟩
            · obtain ⟨q, hq⟩ := Int.eq_ofNat_of_zero_le (show 0 ≤ nxF P (bsF P B) b by omega)
              obtain ⟨u, eu, u1, u2, u3⟩ := OK_ex (pM b h (by omega) hU hf)
              obtain ⟨v, ev, v1, v2, v3⟩ := OK_ex (pM q u.2 (by omega) u2 u3)
              rw [eP] at u1 v1
              have pu := pbb b
              have pv := pbb q
              rw [eu, OK_bindE, OK_some, hq, ev, OK_bindE, OK_some]
              simp only [u1, v1, w32_id (z := P b) (by omega) (by omega), w32_id (z := P q) (by omega) (by omega)]
              refine OK_if (fun g => ?_) (fun g => ?_)
              · rw [OK_some, LQ_l]
                exact ⟨by omega, by omega, v.2, by rw [nxF_s, hq, tn, if_neg (fun r => by rcases r.2 with t | t <;> omega)]; rfl, v2, v3⟩
              · rw [OK_some, LQ_l]
                exact ⟨by omega, by omega, v.2, by rw [nxF_s, hq, tn, if_pos ⟨fun r => e (by rw [r]), Or.inr (by omega)⟩]; rfl, v2, v3⟩)
          have nm : -1 ≤ nxF P (bsF P B) (B + 1) ∧ nxF P (bsF P B) (B + 1) < (B + 1 : Nat) := by
            rcases nxF_m P (bsF P B) (B + 1) with ⟨q, -⟩ | ⟨c, q, -, r, -⟩ <;> omega
          have le := lead_eq P B
          rw [ey, OK_bindE, OK_some]
          dsimp only
          simp only [w32_id (z := nxF P (bsF P B) (B + 1)) (by omega) (by omega), show w32 (-1) = -1 from rfl]
          refine OK_if (fun f => ?_) (fun f => ?_)
          · obtain ⟨q, hq⟩ := Int.eq_ofNat_of_zero_le (show 0 ≤ nxF P (bsF P B) (B + 1) by omega)
            obtain ⟨u, eu, u1, u2, u3⟩ := OK_ex (pM (bsF P B) h2 (by omega) H2 F2)
            obtain ⟨v, ev, v1, v2, v3⟩ := OK_ex (pM q u.2 (by omega) u2 u3)
            rw [eP] at u1 v1
            rw [eu, OK_bindE, OK_some, hq, ev, OK_bindE, OK_some, OK_some]
            refine ⟨?_, zW, zf, v3⟩
            dsimp only
            rw [le, if_neg f, hq, tn, u1, v1]
          · have f' : nxF P (bsF P B) (B + 1) = -1 := by omega
            rw [OK_some]
            refine ⟨?_, zW, zf, F2⟩
            dsimp only
            rw [le, if_pos f']
      · simp only [if_neg d3, qn0, if_false]
        refine OK_gn (by omega) (OK_gn (by omega) (OK_gn (by omega) ?_))
        rw [OK_some, OK_some]
        exact ⟨rfl, zW, zf, fun _ _ _ => rfl⟩
  · simp only [if_neg d1, q0, if_true]
    exact triv True
