theorem lvM_cg {m h : Hp} (e : h 150 = m 150) (c : Int) : lvM h c = lvM m c := by
  unfold lvM
  rw [e]
theorem mdo_bd {c : Int} {a b : Int × Bool} (ha : -2147483648 ≤ a.1 ∧ a.1 < 2147483648) (hb : -2147483648 ≤ b.1 ∧ b.1 < 2147483648) : -2147483648 ≤ (mdo c a b).1 ∧ (mdo c a b).1 < 2147483648 := by
  unfold mdo
  by_cases k : c = 38 ∨ c = 124
  · rw [if_pos k]
    by_cases q : a.2 = true ∨ a.1 ≠ (if c = 38 then 1 else 0)
    · rw [if_pos q]
      exact ha
    · rw [if_neg q]
      exact hb
  · rw [if_neg k]
    exact mwk_bd _ _ _
/-- the codes' numbers are of their kinds -/
def CKm (m : Hp) : Prop := (∀ p, 0 ≤ m 171 p ∧ m 171 p ≤ 255) ∧ (∀ p, 0 ≤ m 172 p ∧ m 172 p ≤ 99999)
theorem reckons_b {m : Hp} {a e : Nat} (ha : a ≤ e) (he : e ≤ 1760) (hN : e - a ≤ 160) (hc : CKm m) (hl : ∀ c, -2147483648 ≤ lvM m c ∧ lvM m c < 2147483648) {st : List (Int × Bool)} (hr : mrn (m 171) (m 172) (lvM m) (e - a) a [] = some st) : OK (X12_reckons (a : Int) (e : Int) m) (fun w => SMx w st ∧ (∀ c, c ≠ 180 → c ≠ 181 → w c = m c) ∧ ∀ z ∈ st, -2147483648 ≤ z.1 ∧ z.1 < 2147483648) := by
  obtain ⟨c1, c2⟩ := hc
  unfold X12_reckons
  rw [OK_bindE]
  refine iter_up (fun p s => ∃ (sp : List (Int × Bool)) (h : Hp), s = ((sp.length : Int), ((a + p : Nat) : Int), h) ∧ SMx h sp ∧ (∀ c, c ≠ 180 → c ≠ 181 → h c = m c) ∧ sp.length ≤ p ∧ (∀ z ∈ sp, -2147483648 ≤ z.1 ∧ z.1 < 2147483648) ∧ mrn (m 171) (m 172) (lvM m) (e - a - p) (a + p) sp = some st) _ (e - a) (by omega) (fun p s hp hI => ?_) ⟨[], m, rfl, trivial, fun _ _ _ => rfl, by simp, fun z hz => (by cases hz), hr⟩
  obtain ⟨sp, h, rfl, g, fr, hlen, hbd, hr2⟩ := hI
  have e171 : h 171 = m 171 := fr 171 (by decide) (by decide)
  have e172 : h 172 = m 172 := fr 172 (by decide) (by decide)
  have e150 : h 150 = m 150 := fr 150 (by decide) (by decide)
  unfold X12_reckons_l4 X12_reckons_j71 X12_reckons_j69
  (try dsimp only)
  simp only [w32_id (z := (e : Int)) (by omega) (by omega), w32_id (z := ((a + p : Nat) : Int)) (by omega) (by omega), tn, e171, e172]
  by_cases k : p = e - a
  · refine OK_gd (by omega) ?_
    rw [OK_some, LQ_r]
    rw [show e - a - p = 0 by omega] at hr2
    cases hr2
    exact ⟨g, fr, hbd⟩
  · refine OK_gn (by omega) ?_
    rw [show e - a - p = (e - a - (p + 1)) + 1 by omega] at hr2
    have hb1 := c1 (a + p)
    have hb2 := c2 (a + p)
    have i1 : inb ((a + p : Nat) : Int) 1760 := inb_t (by omega) (by omega) (by omega)
    have i2 : inb (sp.length : Int) 200 := inb_t (by omega) (by omega) (by omega)
    have n2 : (w32 (sp.length : Int)).toNat = sp.length := wtn _ rfl (by omega)
    obtain ⟨sq, es, hr3⟩ : ∃ sq, mst (m 171) (m 172) (lvM m) (a + p) sp = some sq ∧ mrn (m 171) (m 172) (lvM m) (e - a - (p + 1)) (a + p + 1) sq = some st := by
      have : (mst (m 171) (m 172) (lvM m) (a + p) sp).bind (mrn (m 171) (m 172) (lvM m) (e - a - (p + 1)) (a + p + 1)) = some st := hr2
      cases em : mst (m 171) (m 172) (lvM m) (a + p) sp with
      | none =>
        rw [em] at this
        cases this
      | some sq =>
        rw [em] at this
        exact ⟨sq, rfl, this⟩
    unfold mst at es
    refine OK_gd i1 ?_
    simp only [w32_id (z := m 171 (a + p)) (by omega) (by omega), show w32 2 = 2 from rfl]
    have pushed : ∀ v : Int, (-2147483648 ≤ v ∧ v < 2147483648) → sq = (v, false) :: sp → OK (if inb (sp.length : Int) 200 then some (Sum.inl ((sp.length : Int) + 1, ((a + p : Nat) : Int) + 1, setH (setH h 181 (w32 (sp.length : Int)).toNat (z1 0)) 180 (w32 (sp.length : Int)).toNat v)) else none) (LQ (fun s' => p < e - a ∧ ∃ (sp : List (Int × Bool)) (h : Hp), s' = ((sp.length : Int), ((a + (p + 1) : Nat) : Int), h) ∧ SMx h sp ∧ (∀ c, c ≠ 180 → c ≠ 181 → h c = m c) ∧ sp.length ≤ p + 1 ∧ (∀ z ∈ sp, -2147483648 ≤ z.1 ∧ z.1 < 2147483648) ∧ mrn (m 171) (m 172) (lvM m) (e - a - (p + 1)) (a + (p + 1)) sp = some st) (fun w => SMx w st ∧ (∀ c, c ≠ 180 → c ≠ 181 → w c = m c) ∧ ∀ z ∈ st, -2147483648 ≤ z.1 ∧ z.1 < 2147483648)) := by
      intro v hv esq
      refine OK_gd i2 ?_
      rw [OK_some, LQ_l, n2]
      refine ⟨by omega, sq, _, by rw [esq]; rfl, ?_, fun c h1 h2 => ?_, ?_, fun z hz => ?_, hr3⟩
      · rw [esq]
        refine ⟨⟨setH_s, ?_⟩, SMx_cg _ (fun j hj => ?_) g⟩
        · rw [setH_o (by decide), setH_s]
          exact z1_0
        · rw [setH_n (by omega), setH_o (by decide), setH_o (by decide), setH_n (by omega)]
          exact ⟨rfl, rfl⟩
      · rw [setH_o h1, setH_o h2]
        exact fr c h1 h2
      · rw [esq]
        simp
        omega
      · rw [esq] at hz
        rcases List.mem_cons.mp hz with q | q
        · rw [q]
          exact hv
        · exact hbd z q
    by_cases k0 : m 171 (a + p) = 0
    · rw [if_pos k0] at es
      cases es
      refine OK_gd (by omega) (OK_gd i1 (OK_gd (by omega) (OK_gd i2 (OK_gd i1 ?_))))
      refine OK_gn (by omega) (OK_gd i1 ?_)
      exact pushed _ (by omega) rfl
    rw [if_neg k0] at es
    by_cases k1 : m 171 (a + p) = 1
    · rw [if_pos k1] at es
      cases es
      refine OK_gd (by omega) (OK_gd i1 (OK_gd (by omega) (OK_gd i2 (OK_gd i1 ?_))))
      refine OK_gd (by omega) (OK_gd i1 ?_)
      rw [valueOf_s (by omega), OK_bindE, OK_some, lvM_cg (m := m) (by rw [setH_o (by decide)]; exact e150)]
      exact pushed _ (hl _) rfl
    rw [if_neg k1] at es
    by_cases k2 : m 171 (a + p) = 2
    · rw [if_pos k2] at es
      refine OK_gd (by omega) (OK_gd i1 (OK_gn (by omega) ?_))
      cases sp with
      | nil => cases es
      | cons z r =>
        dsimp only at es
        by_cases kz : z.1 = 0 ∨ z.1 = 1
        · rw [if_pos kz] at es
          cases es
          have el : (((z :: r).length : Nat) : Int) - 1 = (r.length : Int) := by simp <;> omega
          have hl2 : r.length + 1 ≤ p := hlen
          have i3 : inb ((((z :: r).length : Nat) : Int) - 1) 200 := inb_t (by rw [el]; omega) (by rw [el]; omega) (by omega)
          have n3 : (w32 ((((z :: r).length : Nat) : Int) - 1)).toNat = r.length := by rw [el]; exact wtn _ rfl (by omega)
          refine OK_gd i3 (OK_gd i3 ?_)
          rw [OK_some, LQ_l, n3, g.1.1]
          refine ⟨by omega, (1 - z.1, z.2) :: r, _, rfl, ⟨⟨setH_s, ?_⟩, SMx_cg _ (fun j hj => ?_) g.2⟩, fun c h1 h2 => ?_, (by show r.length + 1 ≤ p + 1; omega), fun y hy => ?_, hr3⟩
          · rw [setH_o (by decide)]
            exact g.1.2
          · rw [setH_n (by omega), setH_o (by decide)]
            exact ⟨rfl, rfl⟩
          · rw [setH_o h1]
            exact fr c h1 h2
          · rcases List.mem_cons.mp hy with q | q
            · rw [q]
              show -2147483648 ≤ 1 - z.1 ∧ 1 - z.1 < 2147483648
              omega
            · exact hbd y (List.mem_cons_of_mem _ q)
        · rw [if_neg kz] at es
          cases es
    rw [if_neg k2] at es
    refine OK_gn (by omega) (OK_gd i1 ?_)
    match sp, es, g, hlen, hbd with
    | [], es, _, _, _ => cases es
    | [z], es, _, _, _ => cases es
    | b :: y :: r, es, g, hlen, hbd =>
      cases es
      have hl2 : r.length + 2 ≤ p := hlen
      have el : ((((b :: y :: r).length : Nat) : Int) + -1) - 1 = (r.length : Int) := by simp <;> omega
      rw [el, OK_bindE]
      refine OK_mono (does_s (m := m) (by omega) (by omega) (hbd y (by simp)) (hbd b (by simp)) g fr) (fun h' hh => ?_)
      rw [OK_some, LQ_l]
      refine ⟨by omega, _, h', ?_, hh.1, hh.2, ?_, fun q hq => ?_, hr3⟩
      · have : (((b :: y :: r).length : Nat) : Int) + -1 = (((mdo (m 171 (a + p)) y b :: r).length : Nat) : Int) := by simp <;> omega
        rw [this]
        rfl
      · show r.length + 1 ≤ p + 1
        omega
      · rcases List.mem_cons.mp hq with q1 | q1
        · rw [q1]
          exact mdo_bd (hbd y (by simp)) (hbd b (by simp))
        · exact hbd q (List.mem_cons_of_mem _ (List.mem_cons_of_mem _ q1))
