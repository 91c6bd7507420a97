/-! READING A TEXT on both sides -/
def tOf (T : Nat) : Nat := if T < 8 then 86 + 8 * T else 28 + 8 * (T - 8)
/-- all the texts -/
def RP (x m : Hp) : Prop := (∀ T, T ≤ 10 → TX x m (tOf T) T) ∧ CKm m
theorem RP_cg {x m x' m' : Hp} (hx : ∀ T, T ≤ 10 → x' (tOf T) 0 = x (tOf T) 0 ∧ ∀ i, 1 ≤ i → i ≤ 5 → x' (tOf T + i) = x (tOf T + i)) (hm : ∀ c, 166 ≤ c → c ≤ 172 → m' c = m c) (R : RP x m) : RP x' m' := by
  refine ⟨fun T hT => TX_cg (hx T hT).1 (hx T hT).2 hm (R.1 T hT), ?_⟩
  have := R.2
  unfold CKm at this ⊢
  rw [hm 171 (by decide) (by decide), hm 172 (by decide) (by decide)]
  exact this
theorem TX_fr {x m x' m' : Hp} {t T : Nat} (h0 : x' t 0 = x t 0) (hx : ∀ i, 1 ≤ i → i ≤ 5 → x' (t + i) = x (t + i)) (h166 : m' 166 T = m 166 T) (h167 : ∀ c j, 167 ≤ c → c ≤ 170 → 12 * T ≤ j → j < 12 * T + 12 → m' c j = m c j) (h171 : ∀ c j, 171 ≤ c → c ≤ 172 → 160 * T ≤ j → j < 160 * T + 160 → m' c j = m c j) (X : TX x m t T) : TX x' m' t T := by
  obtain ⟨c, h1, h2, h3, h5⟩ := X
  refine ⟨c, h1, by rw [h0]; exact h2, by rw [h166]; exact h3, fun j hj => ?_⟩
  have r : ∀ c, 167 ≤ c → c ≤ 170 → m' c (12 * T + j) = m c (12 * T + j) := fun c k1 k2 => h167 c _ k1 k2 (by omega) (by omega)
  obtain ⟨b, e, a', b', e', vE, vC, q1, q2, q3, q4, q5, q6, q7, q8⟩ := h5 j hj
  have l7 := q7.1
  have l8 := q8.1
  refine ⟨b, e, a', b', e', vE, vC, ?_, ?_, ?_, ?_, q5, ?_, MS_cg (fun p k1 k2 => ⟨h171 171 p (by decide) (by decide) (by omega) (by omega), h171 172 p (by decide) (by decide) (by omega) (by omega)⟩) q7, MS_cg (fun p k1 k2 => ⟨h171 171 p (by decide) (by decide) (by omega) (by omega), h171 172 p (by decide) (by decide) (by omega) (by omega)⟩) q8⟩
  · rw [hx 1 (by decide) (by decide), r 167 (by decide) (by decide)]
    exact q1
  · rw [hx 2 (by decide) (by decide), hx 3 (by decide) (by decide)]
    exact q2
  · rw [r 168 (by decide) (by decide), r 169 (by decide) (by decide), r 170 (by decide) (by decide)]
    exact q3
  · rw [hx 4 (by decide) (by decide), hx 5 (by decide) (by decide)]
    exact q4
  · unfold beA at q6 ⊢
    rw [hx 3 (by decide) (by decide), hx 4 (by decide) (by decide), hx 5 (by decide) (by decide)]
    exact q6
theorem TX_mk {x m : Hp} {t T b : Nat} {l : List CL} (hl : l.length ≤ 12) (h0 : x t 0 = (l.length : Int)) (K : KX x t l b) (hb : b ≤ 160) (hc : CKx (x (t + 4)) (x (t + 5)) b) (M : TMm m T l) : TX x m t T := by
  refine ⟨l.length, hl, h0, M.1, fun j hj => ?_⟩
  have hi : l[j]? = some l[j] := List.getElem?_eq_getElem hj
  obtain ⟨b1, e1, k1, k2, k3, k4, k5, k6, k7⟩ := K.2 j _ hi
  obtain ⟨a', b', e', ⟨r1, r2, r3⟩, r4, r5, r6, r7⟩ := M.2 j _ hi
  exact ⟨b1, e1, a', b', e', _, _, ⟨by rw [k1, r1], by rw [r1]; exact r2, by rw [r1]; exact r3⟩, ⟨k3, k4⟩, r4, ⟨by omega, fun p hp => hc p (by omega)⟩, r5, ⟨k6, k7⟩, r6, r7⟩
def XFt (T : Nat) (x h : Hp) : Prop := ∀ c j, ¬ (c = 1 ∧ j = 1) → ¬ (18 ≤ c ∧ c ≤ 24) → ¬ (c = tOf T ∧ (j = 0 ∨ j = 1)) → ¬ (tOf T + 1 ≤ c ∧ c ≤ tOf T + 5) → h c j = x c j
def MFt (m h : Hp) : Prop := ∀ c j, ¬ (c = 150 ∧ (j = 1 ∨ (34 ≤ j ∧ j ≤ 42))) → ¬ (166 ≤ c ∧ c ≤ 179) → h c j = m c j
theorem tOf_b {T : Nat} (hT : T ≤ 10) : 28 ≤ tOf T ∧ tOf T ≤ 142 := by
  unfold tOf
  split <;> omega
theorem tOf_n {T U : Nat} (hT : T ≤ 10) (hU : U ≤ 10) (h : T ≠ U) : tOf T + 8 ≤ tOf U ∨ tOf U + 8 ≤ tOf T := by
  unfold tOf
  split <;> split <;> omega
theorem text_b {x m : Hp} {T : Nat} {v : Int} (hT : T ≤ 10) (R : RT x m) (P : RP x m) (hv : I32 v) : OK (X11_readText (wdT T) (some (tOf T)) v x) (fun z => OK (X12_readsText (T : Int) v m) (fun w => z.1 = w.1 ∧ I32 w.1 ∧ RT z.2 w.2 ∧ RP z.2 w.2 ∧ XFt T x z.2 ∧ MFt m w.2)) := by
  have hR := R
  obtain ⟨⟨t1, t2, t3⟩, t4, t5⟩ := R
  have tb := tOf_b hT
  have triv : (fun z : Int × Hp => OK (some ((-1 : Int), m)) (fun w : Int × Hp => z.1 = w.1 ∧ I32 w.1 ∧ RT z.2 w.2 ∧ RP z.2 w.2 ∧ XFt T x z.2 ∧ MFt m w.2)) (-1, x) := by
    show OK (some ((-1 : Int), m)) _
    rw [OK_some]
    dsimp only
    exact ⟨rfl, ⟨by decide, by decide⟩, hR, P, fun _ _ _ _ _ _ => rfl, fun _ _ _ _ => rfl⟩
  have xin := within_in (a := v) (b := 1) (c := 160) (by decide) (by decide) hv.1 hv.2 (by decide) (by decide)
  have min := lies_in (a := v) (b := 1) (c := 160) (by have := hv.1; omega) (by have := hv.2; omega) (by decide) (by decide) (by decide) (by decide)
  have hw : w32 v = v := I32_w hv
  by_cases c1 : 1 ≤ v ∧ v ≤ 160
  · obtain ⟨n, rfl⟩ := Int.eq_ofNat_of_zero_le (show 0 ≤ v by omega)
    by_cases c2 : (n : Int) ≤ m 150 1
    · have hbe : (fun j => if j < n then x 2 j else 0) = (fun j => if j < n then m 151 j % 256 else 0) := by
        funext j
        rw [(t5 j).1]
      have hx := read_x (w := wdT T) (t := tOf T) (n := n) (h := x) (by unfold wdT; split; omega; split; omega; split <;> omega) (by omega) (by omega) (by omega) (by omega) (fun j => by have := t5 j; omega)
      rw [hbe] at hx
      obtain ⟨z, ez, z1, z2⟩ := OK_ex hx
      obtain ⟨w, ew, w1, w2, w3, ⟨w4, w5, w6⟩, w7⟩ := OK_ex (reads_t (n := n) hT (by omega) c2 (by omega) P.2)
      have eX : X11_readText (wdT T) (some (tOf T)) (n : Int) x = some (z.1, setH z.2 1 1 0) := by
        unfold X11_readText X9_clear
        dsimp only
        rw [xin, if_pos c1, Option.bind_some, if_neg (by decide), holds_eq (by omega), Option.bind_some, if_pos (by rw [if_pos ⟨by rw [hw]; omega, by rw [hw, t1, w32_id (z := m 150 1) (by omega) (by omega)]; omega⟩]; decide), ez]
        rfl
      rw [eX, ew, OK_some, OK_some]
      have zt : z.2 0 = x 0 ∧ z.2 2 = x 2 := ⟨funext fun j => z1 0 j (by decide) (by decide) (by omega) (by omega) (by omega), funext fun j => z1 2 j (by decide) (by decide) (by omega) (by omega) (by omega)⟩
      have rt : RT (setH z.2 1 1 0) w.2 := by
        refine ⟨⟨by rw [setH_s, w1], by rw [w1]; omega, by rw [w1]; omega⟩, ?_, fun i => ?_⟩
        · rw [setH_o (by decide), zt.1, w3 150 6 (by omega) (by omega)]
          exact t4
        · rw [setH_o (by decide), zt.2, w3 151 i (by omega) (by omega)]
          exact t5 i
      have xo : XFt T x (setH z.2 1 1 0) := fun c j h1 h2 h3 h4 => by
        rw [setH_f h1]
        exact z1 c j (by omega) (by omega) (by omega) h3 h4
      have others : ∀ U, U ≤ 10 → U ≠ T → TX (setH z.2 1 1 0) w.2 (tOf U) U := fun U hU hne => by
        have tu := tOf_b hU
        have tn := tOf_n hU hT hne
        refine TX_fr ?_ (fun i h1 h2 => ?_) (w4 U hne) (fun c j h1 h2 h3 h4 => w5 c j h1 h2 (by omega)) (fun c j h1 h2 h3 h4 => w6 c j h1 h2 (by omega)) (P.1 U hU)
        · rw [setH_o (by omega)]
          exact z1 _ _ (by omega) (by omega) (by omega) (by omega) (by omega)
        · rw [setH_o (by omega)]
          exact funext fun j => z1 _ _ (by omega) (by omega) (by omega) (by omega) (by omega)
      cases er : pW (fun j => if j < n then m 151 j % 256 else 0) (wdT T) n with
      | inl f =>
        rw [er] at z2 w7
        obtain ⟨z3, z4, z5, z6⟩ := z2
        obtain ⟨w8, w9, w10⟩ := w7
        refine ⟨z3.trans w8.symm, ⟨by rw [w8]; omega, by rw [w8]; omega⟩, rt, ⟨fun U hU => ?_, w2⟩, xo, w3⟩
        by_cases e : U = T
        · subst e
          refine TX_cg ?_ (fun i h1 h2 => ?_) w10 (P.1 U hU)
          · show setH z.2 1 1 0 (tOf U) 0 = _
            rw [setH_o (by omega), z5]
          · show setH z.2 1 1 0 (tOf U + i) = _
            rw [setH_o (by omega)]
            exact z6 _ (by omega) (by omega)
        · exact others U hU e
      | inr l =>
        rw [er] at z2 w7
        obtain ⟨z3, z4, z5, b, z6, z7, z8⟩ := z2
        obtain ⟨w8, w9, w10⟩ := w7
        refine ⟨z3.trans w8.symm, ⟨by rw [w8]; omega, by rw [w8]; omega⟩, rt, ⟨fun U hU => ?_, w2⟩, xo, w3⟩
        by_cases e : U = T
        · subst e
          refine TX_cg (x := z.2) (m := w.2) ?_ (fun i h1 h2 => ?_) (fun _ _ _ => rfl) (TX_mk z4.2 z5 z6 z7 z8 w10)
          · show setH z.2 1 1 0 (tOf U) 0 = _
            rw [setH_o (by omega)]
          · show setH z.2 1 1 0 (tOf U + i) = _
            rw [setH_o (by omega)]
        · exact others U hU e
    · have eX : X11_readText (wdT T) (some (tOf T)) (n : Int) x = some (-1, x) := by
        unfold X11_readText
        dsimp only
        rw [xin, if_pos c1, Option.bind_some, if_neg (by decide), holds_eq (by omega), Option.bind_some, if_neg]
        rw [if_neg (by rw [hw, t1, w32_id (z := m 150 1) (by omega) (by omega)]; omega)]
        exact fun q => q rfl
      have eM : X12_readsText (T : Int) (n : Int) m = some (-1, m) := by
        unfold X12_readsText
        rw [hw, min, if_pos c1, Option.bind_some, if_neg (by decide), if_neg (by rw [w32_id (by omega) (by omega)]; omega)]
      rw [eX, eM, OK_some]
      exact triv
  · have eX : X11_readText (wdT T) (some (tOf T)) v x = some (-1, x) := by
      unfold X11_readText
      dsimp only
      rw [xin, if_neg c1, Option.bind_some, if_pos (by decide)]
    have eM : X12_readsText (T : Int) v m = some (-1, m) := by
      unfold X12_readsText
      rw [hw, min, if_neg c1, Option.bind_some, if_pos (by decide)]
    rw [eX, eM, OK_some]
    exact triv
theorem habit_b {x m : Hp} {v : Int} (R : RT x m) (P : RP x m) (hv : I32 v) : OK (X11_habit v x) (fun z => OK (X12_habit v m) (fun w => z.1 = w.1 ∧ I32 w.1 ∧ RT z.2 w.2 ∧ RP z.2 w.2 ∧ XFt 9 x z.2 ∧ MFt m w.2)) := by
  unfold X11_habit X12_habit
  refine OK2_bind (OK2_mono (text_b (T := 9) (by omega) R P hv) (fun z w h => ?_))
  rw [OK_some, OK_some]
  exact h
theorem table_b {x m : Hp} {v : Int} (R : RT x m) (P : RP x m) (hv : I32 v) : OK (X11_table v x) (fun z => OK (X12_table v m) (fun w => z.1 = w.1 ∧ I32 w.1 ∧ RT z.2 w.2 ∧ RP z.2 w.2 ∧ XFt 10 x z.2 ∧ MFt m w.2)) := by
  unfold X11_table X12_table
  refine OK2_bind (OK2_mono (text_b (T := 10) (by omega) R P hv) (fun z w h => ?_))
  rw [OK_some, OK_some]
  exact h
theorem plan_b {x m : Hp} {v : Int} (R : RT x m) (P : RP x m) (hv : I32 v) : OK (X11_plan v x) (fun z => OK (X12_plan v m) (fun w => z.1 = w.1 ∧ I32 w.1 ∧ RT z.2 w.2 ∧ RP z.2 w.2 ∧ XFt 8 (setH x 66 16 (-1)) z.2 ∧ MFt m w.2)) := by
  unfold X11_plan X12_plan X5_forget
  rw [Option.bind_some]
  have R2 : RT (setH x 66 16 (-1)) m := RT_cg (by rw [setH_o (by decide)]) (by rw [setH_o (by decide)]) (setH_o (by decide)) rfl rfl rfl R
  have P2 : RP (setH x 66 16 (-1)) m := RP_cg (fun T hT => by
    have := tOf_b hT
    have hne : ∀ i, i ≤ 5 → tOf T + i ≠ 66 := fun i hi => by unfold tOf; split <;> omega
    exact ⟨by rw [setH_o (by have := hne 0 (by omega); omega)], fun i h1 h2 => setH_o (hne i h2)⟩) (fun _ _ _ => rfl) P
  refine OK2_bind (OK2_mono (text_b (T := 8) (by omega) R2 P2 hv) (fun z w h => ?_))
  rw [OK_some, OK_some]
  exact h
theorem way_b {x m : Hp} {a v : Int} (S : RS x m) (R : RT x m) (P : RP x m) (ha : I32 a) (hv : I32 v) : OK (X11_way a v x) (fun z => OK (X12_way a v m) (fun w => z.1 = w.1 ∧ I32 w.1 ∧ RT z.2 w.2 ∧ RP z.2 w.2 ∧ (∃ T, T < 8 ∧ XFt T x z.2) ∧ MFt m w.2)) := by
  have s4 := S.1.1.2.2.1
  have sb := S.2.1.2.2.1
  unfold X11_way X12_way X11_wayOf X11_wayOf_j15
  rw [x_isM (by omega) (by omega), m_isM (by omega) (by omega)]
  simp only [I32_w ha, s4, Option.bind_some]
  by_cases c : 0 ≤ a ∧ a < m 150 4
  · obtain ⟨T, rfl⟩ := Int.eq_ofNat_of_zero_le c.1
    have hok : okO (some (86 + 8 * ((T : Int)).toNat)) = true := okO_some (by
      have : T = 0 ∨ T = 1 ∨ T = 2 ∨ T = 3 ∨ T = 4 ∨ T = 5 ∨ T = 6 ∨ T = 7 := by omega
      rcases this with q | q | q | q | q | q | q | q <;> subst q <;> decide)
    rw [if_pos c, if_neg (by decide), if_neg (by rw [show w32 8 = 8 from rfl]; omega), if_inb (by omega) (by omega) (by omega), Option.bind_some, if_pos hok, if_neg (by decide)]
    have e : 86 + 8 * ((T : Int)).toNat = tOf T := by
      unfold tOf
      rw [if_pos (by omega)]
      rfl
    rw [e]
    have e0 : wdT T = 0 := by
      unfold wdT
      rw [if_pos (by omega)]
    have key := text_b (T := T) (by omega) R P hv
    rw [e0] at key
    refine OK2_bind (OK2_mono key (fun z w h => ?_))
    rw [OK_some, OK_some]
    exact ⟨h.1, h.2.1, h.2.2.1, h.2.2.2.1, ⟨T, by omega, h.2.2.2.2.1⟩, h.2.2.2.2.2⟩
  · rw [if_neg c, if_pos (by decide), if_pos (by decide), Option.bind_some, if_pos (by rfl)]
    unfold X11_readText
    rw [Option.bind_some, OK_some, OK_some]
    dsimp only
    exact ⟨rfl, ⟨by decide, by decide⟩, R, P, ⟨0, by omega, fun _ _ _ _ _ _ => rfl⟩, fun _ _ _ _ => rfl⟩
