set_option linter.all false
theorem mi_X12_condition : MIv yX12_condition M_X12_condition 0 := ⟨⟨(mem_GW 2014 (by decide +kernel) rfl), (mem_GW 135 (by decide +kernel) rfl), by decide +kernel, by decide +kernel, by decide +kernel, by decide⟩, (mem_GW 2013 (by decide +kernel) rfl), (mem_GW 76 (by decide +kernel) rfl)⟩
set_option maxRecDepth 20000 in
set_option maxHeartbeats 4000000 in
theorem c_X12_condition_j30 {k0 : K0} {G : Gx} {Qp : Option AV → Fx → Hp → Prop} (hM : MB (KM k0 0 0 Qp) G M_X12_condition 7) (v1 : Int) (h : Hp)   {P : ((Int × Hp) ⊕ (Hp)) → Prop} (hin : ∀ y : Int × Hp, P (.inl y) → ATk (KM k0 0 0 Qp) FN 0 0 M_X12_condition 20 [some (aR 150), some (aI y.1)] [] y.2) (hout0 : ∀ y : Hp, P (.inr y) → ATk (KM k0 0 0 Qp) FN 0 0 M_X12_condition 37 [none, none] [] y) (hh : OK (X12_condition_j30 v1 h) P) : ATk (KM k0 0 0 Qp) FN 0 0 M_X12_condition 30 [some (aR 150), some (aI v1)] [] h := by
  unfold X12_condition_j30 at hh
  refine A_blk hM.1 1 (lv1 := [some (aR 150), some (aI v1)]) (s1 := [aR 150]) (h1 := h) rfl ?_
  refine A_callV hM rfl rfl (mem_GW 1941 (by decide +kernel) rfl) mi_X12_isGood (As := []) (rest := []) (ct_X12_isGood h (OK_bind hh)) (by decide) ⟨Nat.zero_le _, Nat.zero_le _⟩ rfl rfl (Nat.le_of_ble_eq_true rfl) (by decide) rfl (by decide) rfl (fun r F' h' hq1 => ?_)
  obtain ⟨rfl, r5, rfl, e9, hh⟩ := hq1
  subst h'
  refine A_ifc hM.1 rfl rfl (fun hc => ?_) (fun hc => ?_)
  · replace hh := OK_t hh hc
    exact hin (v1, h) hh
  · replace hh := OK_f hh hc
    refine A_blk hM.1 1 (lv1 := [some (aR 150), some (aI v1)]) (s1 := [aR 150]) (h1 := h) rfl ?_
    refine A_callV hM rfl rfl (mem_GW 2026 (by decide +kernel) rfl) mi_X12_goesBehind (As := []) (rest := []) (ct_X12_goesBehind h (OK_bind hh)) (by decide) ⟨Nat.zero_le _, Nat.zero_le _⟩ rfl rfl (Nat.le_of_ble_eq_true rfl) (by decide) rfl (by decide) rfl (fun r F' h' hq1 => ?_)
    obtain ⟨rfl, r6, rfl, e9, hh⟩ := hq1
    subst h'
    refine A_blk hM.1 1 (lv1 := [some (aR 150), some (aI r6.1)]) (s1 := []) (h1 := r6.2) rfl ?_
    refine A_go hM.1 rfl rfl ?_
    exact hin (r6.1, r6.2) hh

set_option maxRecDepth 20000 in
set_option maxHeartbeats 4000000 in
theorem c_X12_condition_l20 {k0 : K0} {G : Gx} {Qp : Option AV → Fx → Hp → Prop} (hM : MB (KM k0 0 0 Qp) G M_X12_condition 7) (x : Int × Hp)   {P : ((Int × Hp) ⊕ (Hp)) → Prop} (hin : ∀ y : Int × Hp, P (.inl y) → ATk (KM k0 0 0 Qp) FN 0 0 M_X12_condition 20 [some (aR 150), some (aI y.1)] [] y.2) (hout0 : ∀ y : Hp, P (.inr y) → ATk (KM k0 0 0 Qp) FN 0 0 M_X12_condition 37 [none, none] [] y) (hh : OK (X12_condition_l20 x) P) : ATk (KM k0 0 0 Qp) FN 0 0 M_X12_condition 20 [some (aR 150), some (aI x.1)] [] x.2 := by
  unfold X12_condition_l20 at hh
  refine A_blk hM.1 1 (lv1 := [some (aR 150), some (aI x.1)]) (s1 := [aR 150]) (h1 := x.2) rfl ?_
  refine A_callV hM rfl rfl (mem_GW 1941 (by decide +kernel) rfl) mi_X12_isGood (As := []) (rest := []) (ct_X12_isGood x.2 (OK_bind hh)) (by decide) ⟨Nat.zero_le _, Nat.zero_le _⟩ rfl rfl (Nat.le_of_ble_eq_true rfl) (by decide) rfl (by decide) rfl (fun r F' h' hq1 => ?_)
  obtain ⟨rfl, r4, rfl, e9, hh⟩ := hq1
  subst h'
  refine A_ifc hM.1 rfl rfl (fun hc => ?_) (fun hc => ?_)
  · replace hh := OK_t hh hc
    refine A_mask [false, false] (lv1 := [none, none]) rfl ?_
    exact hout0 x.2 hh
  · replace hh := OK_f hh hc
    refine A_blk hM.1 2 (lv1 := [some (aR 150), some (aI x.1)]) (s1 := [aI (x.2 150 41)]) (h1 := x.2) rfl ?_
    refine A_ifc hM.1 rfl rfl (fun hc => ?_) (fun hc => ?_)
    · replace hh := OK_t hh hc
      refine A_mask [false, false] (lv1 := [none, none]) rfl ?_
      exact hout0 x.2 hh
    · replace hh := OK_f hh hc
      refine A_blk hM.1 1 (lv1 := [some (aR 150), some (aI x.1)]) (s1 := [aI x.1]) (h1 := x.2) rfl ?_
      refine A_ifc hM.1 rfl rfl (fun hc => ?_) (fun hc => ?_)
      · replace hh := OK_t hh hc
        exact c_X12_condition_j30 hM x.1 x.2 hin hout0 hh
      · replace hh := OK_f hh hc
        refine A_blk hM.1 1 (lv1 := [some (aR 150), some (aI x.1)]) (s1 := [aR 150]) (h1 := x.2) rfl ?_
        refine A_callV hM rfl rfl (mem_GW 2015 (by decide +kernel) rfl) mi_X12_pieceOfC (As := []) (rest := []) (ct_X12_pieceOfC x.2 (OK_bind hh)) (by decide) ⟨Nat.zero_le _, Nat.zero_le _⟩ rfl rfl (Nat.le_of_ble_eq_true rfl) (by decide) rfl (by decide) rfl (fun r F' h' hq1 => ?_)
        obtain ⟨rfl, rfl, hh⟩ := hq1
        obtain ⟨r7, rfl⟩ : ∃ z, z = h' := ⟨_, rfl⟩
        exact c_X12_condition_j30 hM x.1 r7 hin hout0 hh

set_option maxRecDepth 20000 in
set_option maxHeartbeats 4000000 in
theorem c_X12_condition_j12 {k0 : K0} {G : Gx} {Qp : Option AV → Fx → Hp → Prop} (hM : MB (KM k0 0 0 Qp) G M_X12_condition 7) (h : Hp)   {P : Hp → Prop} (hq : ∀ z : Hp, P z → Qp none FN z) (hh : OK (X12_condition_j12 h) P) : ATk (KM k0 0 0 Qp) FN 0 0 M_X12_condition 12 [some (aR 150), none] [] h := by
  unfold X12_condition_j12 at hh
  refine A_blk hM.1 1 (lv1 := [some (aR 150), none]) (s1 := [aR 150]) (h1 := h) rfl ?_
  refine A_callV hM rfl rfl (mem_GW 1941 (by decide +kernel) rfl) mi_X12_isGood (As := []) (rest := []) (ct_X12_isGood h (OK_bind hh)) (by decide) ⟨Nat.zero_le _, Nat.zero_le _⟩ rfl rfl (Nat.le_of_ble_eq_true rfl) (by decide) rfl (by decide) rfl (fun r F' h' hq1 => ?_)
  obtain ⟨rfl, r2, rfl, e9, hh⟩ := hq1
  subst h'
  refine A_ifc hM.1 rfl rfl (fun hc => ?_) (fun hc => ?_)
  · replace hh := OK_t hh hc
    refine A_blk hM.1 1 (lv1 := [some (aR 150), none]) (s1 := [aR 150]) (h1 := h) rfl ?_
    refine A_callV hM rfl rfl (mem_GW 1968 (by decide +kernel) rfl) mi_X12_opens (As := []) (rest := []) (ct_X12_opens h (OK_bind hh)) (by decide) ⟨Nat.zero_le _, Nat.zero_le _⟩ rfl rfl (Nat.le_of_ble_eq_true rfl) (by decide) rfl (by decide) rfl (fun r F' h' hq1 => ?_)
    obtain ⟨rfl, rfl, hh⟩ := hq1
    obtain ⟨r3, rfl⟩ : ∃ z, z = h' := ⟨_, rfl⟩
    refine A_blk hM.1 2 (lv1 := [some (aR 150), some (aI 1)]) (s1 := []) (h1 := r3) rfl ?_
    refine iter_ok (s := (1, r3)) (Gp := fun z => ATk (KM k0 0 0 Qp) FN 0 0 M_X12_condition 20 [some (aR 150), some (aI z.1)] [] z.2) (E := fun z => ATk (KM k0 0 0 Qp) FN 0 0 M_X12_condition 37 [none, none] [] z) (fun z P1 g1 g2 g3 => c_X12_condition_l20 hM  z g2 g3 g1) (OK_bind hh) (fun x8 hh => ?_)
    exact A_retv hM.1 rfl rfl rfl (hq x8 hh)
  · replace hh := OK_f hh hc
    exact A_retv hM.1 rfl rfl rfl (hq h hh)

set_option maxRecDepth 20000 in
set_option maxHeartbeats 4000000 in
theorem c_X12_condition {k0 : K0} {G : Gx} {Qp : Option AV → Fx → Hp → Prop} (hM : MB (KM k0 0 0 Qp) G M_X12_condition 7) (h : Hp)   {P : Hp → Prop} (hq : ∀ z : Hp, P z → Qp none FN z) (hh : OK (X12_condition h) P) : ATk (KM k0 0 0 Qp) FN 0 0 M_X12_condition 0 [some (aR 150), none] [] h := by
  unfold X12_condition at hh
  refine A_blk hM.1 2 (lv1 := [some (aR 150), none]) (s1 := [aI 0, aR 150]) (h1 := h) rfl ?_
  refine A_putz hM.1 rfl rfl rfl (by decide) rfl rfl rfl (by decide) ?_
  refine A_blk hM.1 1 (lv1 := [some (aR 150), none]) (s1 := [aR 150]) (h1 := setH h 150 41 0) rfl ?_
  refine A_callV hM rfl rfl (mem_GW 1949 (by decide +kernel) rfl) mi_X12_here (As := []) (rest := []) (ct_X12_here (setH h 150 41 0) (OK_bind hh)) (by decide) ⟨Nat.zero_le _, Nat.zero_le _⟩ rfl rfl (Nat.le_of_ble_eq_true rfl) (by decide) rfl (by decide) rfl (fun r F' h' hq1 => ?_)
  obtain ⟨rfl, r1, rfl, e9, hh⟩ := hq1
  subst h'
  refine A_blk hM.1 1 (lv1 := [some (aR 150), none]) (s1 := [aI 40, aI r1]) (h1 := setH h 150 41 0) rfl ?_
  refine A_icmp hM.1 rfl rfl (fun hc => ?_) (fun hc => ?_)
  · replace hh := OK_t hh hc
    exact c_X12_condition_j12 hM (setH h 150 41 0) hq hh
  · replace hh := OK_f hh hc
    refine A_blk hM.1 4 (lv1 := [some (aR 150), none]) (s1 := [aI (h 150 34), aI 1, aR 150]) (h1 := setH h 150 41 0) rfl ?_
    refine A_callV hM rfl rfl (mem_GW 1956 (by decide +kernel) rfl) mi_X12_wrongs (As := [aI 1, aI (h 150 34)]) (rest := []) (ct_X12_wrongs 1 (h 150 34) (setH h 150 41 0) (OK_bind hh)) (by decide) ⟨Nat.zero_le _, Nat.zero_le _⟩ rfl rfl (Nat.le_of_ble_eq_true rfl) (by decide) rfl (by decide) rfl (fun r F' h' hq1 => ?_)
    obtain ⟨rfl, rfl, hh⟩ := hq1
    obtain ⟨r9, rfl⟩ : ∃ z, z = h' := ⟨_, rfl⟩
    exact c_X12_condition_j12 hM r9 hq hh

set_option maxRecDepth 20000 in
set_option maxHeartbeats 4000000 in
theorem ct_X12_condition {G : Gx} (h : Hp)   {P : Hp → Prop} (hh : OK (X12_condition h) P) : CT G yX12_condition M_X12_condition 7 0 0 FN h [aR 150] (fun r F' h' => F' = FN ∧ r = none ∧ P h') :=
  CT.of (by decide +kernel) rfl (Nat.le_of_ble_eq_true rfl) k_X12_condition fun k0 _ _ hM => c_X12_condition hM h (fun z hz => ⟨rfl, rfl, hz⟩) hh

theorem mi_X12_isClause : MIs yX12_isClause M_X12_isClause 2 := ⟨(mem_GW 1955 (by decide +kernel) rfl), (mem_GW 135 (by decide +kernel) rfl), by decide +kernel, by decide +kernel, by decide +kernel, by decide⟩
theorem ms_X12_isClause : .static yX12_isClause ∈ GW := (mem_GW 1954 (by decide +kernel) rfl)
set_option maxRecDepth 20000 in
set_option maxHeartbeats 4000000 in
theorem c_X12_isClause_j12 {k0 : K0} {G : Gx} {Qp : Option AV → Fx → Hp → Prop} (hM : MB (KM k0 0 0 Qp) G M_X12_isClause 1)  (h : Hp)  {P : Int → Prop} (hq : ∀ z : Int, P z → Qp (some (aI z)) FN h) (hh : OK (X12_isClause_j12 ) P) : ATk (KM k0 0 0 Qp) FN 0 0 M_X12_isClause 12 [none, none] [] h := by
  unfold X12_isClause_j12 at hh
  refine A_blk hM.1 1 (lv1 := [none, none]) (s1 := [aI 1]) (h1 := h) rfl ?_
  refine A_go hM.1 rfl rfl ?_
  exact A_retz hM.1 rfl rfl rfl (by decide) (hq 1 hh)

set_option maxRecDepth 20000 in
set_option maxHeartbeats 4000000 in
theorem c_X12_isClause {k0 : K0} {G : Gx} {Qp : Option AV → Fx → Hp → Prop} (hM : MB (KM k0 0 0 Qp) G M_X12_isClause 1) (v0 : Int) (v1 : Int) (h : Hp)  {P : Int → Prop} (hq : ∀ z : Int, P z → Qp (some (aI z)) FN h) (hh : OK (X12_isClause v0 v1) P) : ATk (KM k0 0 0 Qp) FN 0 0 M_X12_isClause 0 [some (aI v0), some (aI v1)] [] h := by
  unfold X12_isClause at hh
  refine A_blk hM.1 2 (lv1 := [some (aI v0), some (aI v1)]) (s1 := [aI 8, aI v0]) (h1 := h) rfl ?_
  refine A_icmp hM.1 rfl rfl (fun hc => ?_) (fun hc => ?_)
  · replace hh := OK_t hh hc
    refine A_blk hM.1 2 (lv1 := [some (aI v0), some (aI v1)]) (s1 := [aI 8, aI v0]) (h1 := h) rfl ?_
    refine A_icmp hM.1 rfl rfl (fun hc => ?_) (fun hc => ?_)
    · replace hh := OK_t hh hc
      refine A_blk hM.1 2 (lv1 := [some (aI v0), some (aI v1)]) (s1 := [aI 9, aI v0]) (h1 := h) rfl ?_
      refine A_icmp hM.1 rfl rfl (fun hc => ?_) (fun hc => ?_)
      · replace hh := OK_t hh hc
        refine A_blk hM.1 2 (lv1 := [some (aI v0), some (aI v1)]) (s1 := [aI 103, aI v1]) (h1 := h) rfl ?_
        refine A_icmp hM.1 rfl rfl (fun hc => ?_) (fun hc => ?_)
        · replace hh := OK_t hh hc
          refine A_blk hM.1 1 (lv1 := [some (aI v0), some (aI v1)]) (s1 := [aI 0]) (h1 := h) rfl ?_
          exact A_retz hM.1 rfl rfl rfl (by decide) (hq 0 hh)
        · replace hh := OK_f hh hc
          refine A_blk hM.1 1 (lv1 := [some (aI v0), some (aI v1)]) (s1 := [aI 1]) (h1 := h) rfl ?_
          refine A_go hM.1 rfl rfl ?_
          exact A_retz hM.1 rfl rfl rfl (by decide) (hq 1 hh)
      · replace hh := OK_f hh hc
        refine A_blk hM.1 2 (lv1 := [some (aI v0), some (aI v1)]) (s1 := [aI 104, aI v1]) (h1 := h) rfl ?_
        refine A_icmp hM.1 rfl rfl (fun hc => ?_) (fun hc => ?_)
        · replace hh := OK_t hh hc
          refine A_blk hM.1 1 (lv1 := [some (aI v0), some (aI v1)]) (s1 := [aI 0]) (h1 := h) rfl ?_
          refine A_go hM.1 rfl rfl ?_
          exact A_retz hM.1 rfl rfl rfl (by decide) (hq 0 hh)
        · replace hh := OK_f hh hc
          refine A_blk hM.1 1 (lv1 := [some (aI v0), some (aI v1)]) (s1 := [aI 1]) (h1 := h) rfl ?_
          refine A_go hM.1 rfl rfl ?_
          exact A_retz hM.1 rfl rfl rfl (by decide) (hq 1 hh)
    · replace hh := OK_f hh hc
      refine A_blk hM.1 2 (lv1 := [some (aI v0), some (aI v1)]) (s1 := [aI 112, aI v1]) (h1 := h) rfl ?_
      refine A_icmp hM.1 rfl rfl (fun hc => ?_) (fun hc => ?_)
      · replace hh := OK_t hh hc
        refine A_blk hM.1 1 (lv1 := [some (aI v0), some (aI v1)]) (s1 := [aI 0]) (h1 := h) rfl ?_
        refine A_go hM.1 rfl rfl ?_
        exact A_retz hM.1 rfl rfl rfl (by decide) (hq 0 hh)
      · replace hh := OK_f hh hc
        refine A_blk hM.1 1 (lv1 := [some (aI v0), some (aI v1)]) (s1 := [aI 1]) (h1 := h) rfl ?_
        refine A_go hM.1 rfl rfl ?_
        exact A_retz hM.1 rfl rfl rfl (by decide) (hq 1 hh)
  · replace hh := OK_f hh hc
    refine A_blk hM.1 2 (lv1 := [some (aI v0), some (aI v1)]) (s1 := [aI 100, aI v1]) (h1 := h) rfl ?_
    refine A_icmp hM.1 rfl rfl (fun hc => ?_) (fun hc => ?_)
    · replace hh := OK_t hh hc
      refine A_mask [false, false] (lv1 := [none, none]) rfl ?_
      exact c_X12_isClause_j12 hM h hq hh
    · replace hh := OK_f hh hc
      refine A_blk hM.1 2 (lv1 := [some (aI v0), some (aI v1)]) (s1 := [aI 99, aI v1]) (h1 := h) rfl ?_
      refine A_icmp hM.1 rfl rfl (fun hc => ?_) (fun hc => ?_)
      · replace hh := OK_t hh hc
        refine A_mask [false, false] (lv1 := [none, none]) rfl ?_
        exact c_X12_isClause_j12 hM h hq hh
      · replace hh := OK_f hh hc
        refine A_blk hM.1 2 (lv1 := [some (aI v0), some (aI v1)]) (s1 := [aI 110, aI v1]) (h1 := h) rfl ?_
        refine A_icmp hM.1 rfl rfl (fun hc => ?_) (fun hc => ?_)
        · replace hh := OK_t hh hc
          refine A_blk hM.1 1 (lv1 := [some (aI v0), some (aI v1)]) (s1 := [aI 0]) (h1 := h) rfl ?_
          exact A_retz hM.1 rfl rfl rfl (by decide) (hq 0 hh)
        · replace hh := OK_f hh hc
          refine A_mask [false, false] (lv1 := [none, none]) rfl ?_
          exact c_X12_isClause_j12 hM h hq hh

set_option maxRecDepth 20000 in
set_option maxHeartbeats 4000000 in
theorem ct_X12_isClause {G : Gx} (v0 : Int) (v1 : Int) (h : Hp)  {P : Int → Prop} (hh : OK (X12_isClause v0 v1) P) : CT G yX12_isClause M_X12_isClause 1 0 0 FN h [aI v0, aI v1] (fun r F' h' => F' = FN ∧ ∃ z, r = some (aI z) ∧ h' = h ∧ P z) :=
  CT.of (by decide +kernel) rfl (Nat.le_of_ble_eq_true rfl) k_X12_isClause fun k0 _ _ hM => c_X12_isClause hM v0 v1 h (fun z hz => ⟨rfl, z, rfl, rfl, hz⟩) hh

theorem mi_X12_clause : MIv yX12_clause M_X12_clause 1 := ⟨⟨(mem_GW 1948 (by decide +kernel) rfl), (mem_GW 135 (by decide +kernel) rfl), by decide +kernel, by decide +kernel, by decide +kernel, by decide⟩, (mem_GW 1947 (by decide +kernel) rfl), (mem_GW 63 (by decide +kernel) rfl)⟩
set_option maxRecDepth 20000 in
set_option maxHeartbeats 4000000 in
theorem c_X12_clause_j65 {k0 : K0} {G : Gx} {Qp : Option AV → Fx → Hp → Prop} (hM : MB (KM k0 0 0 Qp) G M_X12_clause 8) (h : Hp)   {P : Hp → Prop} (hq : ∀ z : Hp, P z → Qp none FN z) (hh : OK (X12_clause_j65 h) P) : ATk (KM k0 0 0 Qp) FN 0 0 M_X12_clause 65 [some (aR 150), none, none] [] h := by
  unfold X12_clause_j65 at hh
  refine A_blk hM.1 6 (lv1 := [some (aR 150), none, none]) (s1 := [aI (h 150 38), aI (h 150 37), aR 176]) (h1 := h) rfl ?_
  obtain ⟨g9, hh⟩ := OK_g hh
  refine A_ast hM.1 rfl (Or.inl ⟨rfl, rfl, rfl⟩) rfl rfl rfl g9 ?_
  refine A_blk hM.1 6 (lv1 := [some (aR 150), none, none]) (s1 := []) (h1 := setH (setH h 176 ((w32 (h 150 37)).toNat) (h 150 38)) 150 37 ((h 150 37) + 1)) rfl ?_
  exact A_retv hM.1 rfl rfl rfl (hq (setH (setH h 176 ((w32 (h 150 37)).toNat) (h 150 38)) 150 37 ((h 150 37) + 1)) hh)

set_option maxRecDepth 20000 in
set_option maxHeartbeats 4000000 in
theorem c_X12_clause_j22 {k0 : K0} {G : Gx} {Qp : Option AV → Fx → Hp → Prop} (hM : MB (KM k0 0 0 Qp) G M_X12_clause 8) (v2 : Int) (h : Hp)   {P : Hp → Prop} (hq : ∀ z : Hp, P z → Qp none FN z) (hh : OK (X12_clause_j22 v2 h) P) : ATk (KM k0 0 0 Qp) FN 0 0 M_X12_clause 22 [some (aR 150), none, some (aI v2)] [] h := by
  unfold X12_clause_j22 at hh
  refine A_blk hM.1 1 (lv1 := [some (aR 150), none, some (aI v2)]) (s1 := [aR 150]) (h1 := h) rfl ?_
  refine A_callV hM rfl rfl (mem_GW 1941 (by decide +kernel) rfl) mi_X12_isGood (As := []) (rest := []) (ct_X12_isGood h (OK_bind hh)) (by decide) ⟨Nat.zero_le _, Nat.zero_le _⟩ rfl rfl (Nat.le_of_ble_eq_true rfl) (by decide) rfl (by decide) rfl (fun r F' h' hq1 => ?_)
  obtain ⟨rfl, r3, rfl, e9, hh⟩ := hq1
  subst h'
  refine A_ifc hM.1 rfl rfl (fun hc => ?_) (fun hc => ?_)
  · replace hh := OK_t hh hc
    refine A_blk hM.1 5 (lv1 := [some (aR 150), none, some (aI v2)]) (s1 := [aI v2, aI (h 150 37), aR 173]) (h1 := h) rfl ?_
    obtain ⟨g4, hh⟩ := OK_g hh
    refine A_ast hM.1 rfl (Or.inl ⟨rfl, rfl, rfl⟩) rfl rfl rfl g4 ?_
    refine A_blk hM.1 6 (lv1 := [some (aR 150), none, some (aI v2)]) (s1 := [aI (h 150 38), aI (h 150 37), aR 174]) (h1 := setH h 173 ((w32 (h 150 37)).toNat) v2) rfl ?_
    obtain ⟨g5, hh⟩ := OK_g hh
    refine A_ast hM.1 rfl (Or.inl ⟨rfl, rfl, rfl⟩) rfl rfl rfl g5 ?_
    refine A_blk hM.1 13 (lv1 := [some (aR 150), none, some (aI v2)]) (s1 := [aR 150]) (h1 := setH (setH (setH (setH (setH h 173 ((w32 (h 150 37)).toNat) v2) 174 ((w32 (h 150 37)).toNat) (h 150 38)) 150 34 ((h 150 34) + 1)) 150 40 0) 150 39 0) rfl ?_
    refine A_callV hM rfl rfl (mem_GW 1960 (by decide +kernel) rfl) mi_X12_value (As := []) (rest := []) (ct_X12_value (setH (setH (setH (setH (setH h 173 ((w32 (h 150 37)).toNat) v2) 174 ((w32 (h 150 37)).toNat) (h 150 38)) 150 34 ((h 150 34) + 1)) 150 40 0) 150 39 0) (OK_bind hh)) (by decide) ⟨Nat.zero_le _, Nat.zero_le _⟩ rfl rfl (Nat.le_of_ble_eq_true rfl) (by decide) rfl (by decide) rfl (fun r F' h' hq1 => ?_)
    obtain ⟨rfl, rfl, hh⟩ := hq1
    obtain ⟨r6, rfl⟩ : ∃ z, z = h' := ⟨_, rfl⟩
    refine A_blk hM.1 6 (lv1 := [some (aR 150), none, some (aI v2)]) (s1 := [aI (r6 150 38), aI (r6 150 37), aR 175]) (h1 := r6) rfl ?_
    obtain ⟨g7, hh⟩ := OK_g hh
    refine A_ast hM.1 rfl (Or.inl ⟨rfl, rfl, rfl⟩) rfl rfl rfl g7 ?_
    refine A_blk hM.1 1 (lv1 := [some (aR 150), none, some (aI v2)]) (s1 := [aR 150]) (h1 := setH r6 175 ((w32 (r6 150 37)).toNat) (r6 150 38)) rfl ?_
    refine A_callV hM rfl rfl (mem_GW 1941 (by decide +kernel) rfl) mi_X12_isGood (As := []) (rest := []) (ct_X12_isGood (setH r6 175 ((w32 (r6 150 37)).toNat) (r6 150 38)) (OK_bind hh)) (by decide) ⟨Nat.zero_le _, Nat.zero_le _⟩ rfl rfl (Nat.le_of_ble_eq_true rfl) (by decide) rfl (by decide) rfl (fun r F' h' hq1 => ?_)
    obtain ⟨rfl, r8, rfl, e9, hh⟩ := hq1
    subst h'
    refine A_ifc hM.1 rfl rfl (fun hc => ?_) (fun hc => ?_)
    · replace hh := OK_t hh hc
      refine A_mask [true, true, false] (lv1 := [some (aR 150), none, none]) rfl ?_
      exact c_X12_clause_j65 hM (setH r6 175 ((w32 (r6 150 37)).toNat) (r6 150 38)) hq hh
    · replace hh := OK_f hh hc
      refine A_blk hM.1 1 (lv1 := [some (aR 150), none, some (aI v2)]) (s1 := [aR 150]) (h1 := setH r6 175 ((w32 (r6 150 37)).toNat) (r6 150 38)) rfl ?_
      refine A_callV hM rfl rfl (mem_GW 2011 (by decide +kernel) rfl) mi_X12_condition (As := []) (rest := []) (ct_X12_condition (setH r6 175 ((w32 (r6 150 37)).toNat) (r6 150 38)) (OK_bind hh)) (by decide) ⟨Nat.zero_le _, Nat.zero_le _⟩ rfl rfl (Nat.le_of_ble_eq_true rfl) (by decide) rfl (by decide) rfl (fun r F' h' hq1 => ?_)
      obtain ⟨rfl, rfl, hh⟩ := hq1
      obtain ⟨r10, rfl⟩ : ∃ z, z = h' := ⟨_, rfl⟩
      refine A_mask [true, true, false] (lv1 := [some (aR 150), none, none]) rfl ?_
      exact c_X12_clause_j65 hM r10 hq hh
  · replace hh := OK_f hh hc
    exact A_retv hM.1 rfl rfl rfl (hq h hh)

set_option maxRecDepth 20000 in
set_option maxHeartbeats 4000000 in
theorem c_X12_clause {k0 : K0} {G : Gx} {Qp : Option AV → Fx → Hp → Prop} (hM : MB (KM k0 0 0 Qp) G M_X12_clause 8) (v1 : Int) (h : Hp)   {P : Hp → Prop} (hq : ∀ z : Hp, P z → Qp none FN z) (hh : OK (X12_clause v1 h) P) : ATk (KM k0 0 0 Qp) FN 0 0 M_X12_clause 0 [some (aR 150), some (aI v1), none] [] h := by
  unfold X12_clause at hh
  refine A_blk hM.1 1 (lv1 := [some (aR 150), some (aI v1), none]) (s1 := [aR 150]) (h1 := h) rfl ?_
  refine A_callV hM rfl rfl (mem_GW 1949 (by decide +kernel) rfl) mi_X12_here (As := []) (rest := []) (ct_X12_here h (OK_bind hh)) (by decide) ⟨Nat.zero_le _, Nat.zero_le _⟩ rfl rfl (Nat.le_of_ble_eq_true rfl) (by decide) rfl (by decide) rfl (fun r F' h' hq1 => ?_)
  obtain ⟨rfl, r1, rfl, e9, hh⟩ := hq1
  subst h'
  refine A_blk hM.1 3 (lv1 := [some (aR 150), some (aI v1), some (aI r1)]) (s1 := [aI r1, aI v1]) (h1 := h) rfl ?_
  refine A_callS hM rfl rfl (mem_GW 1953 (by decide +kernel) rfl) mi_X12_isClause ms_X12_isClause (As := [aI v1, aI r1]) (rest := []) (ct_X12_isClause v1 r1 h (OK_bind hh)) (by decide) ⟨Nat.zero_le _, Nat.zero_le _⟩ rfl rfl (Nat.le_of_ble_eq_true rfl) (fun r F' h' hq1 => ?_)
  obtain ⟨rfl, r2, rfl, e9, hh⟩ := hq1
  subst h'
  refine A_ifc hM.1 rfl rfl (fun hc => ?_) (fun hc => ?_)
  · replace hh := OK_t hh hc
    refine A_blk hM.1 3 (lv1 := [some (aR 150), some (aI v1), some (aI r1)]) (s1 := [aI 12, aI (h 150 37)]) (h1 := h) rfl ?_
    refine A_icmp hM.1 rfl rfl (fun hc => ?_) (fun hc => ?_)
    · replace hh := OK_t hh hc
      refine A_mask [true, false, true] (lv1 := [some (aR 150), none, some (aI r1)]) rfl ?_
      exact c_X12_clause_j22 hM r1 h hq hh
    · replace hh := OK_f hh hc
      refine A_blk hM.1 4 (lv1 := [some (aR 150), some (aI v1), some (aI r1)]) (s1 := [aI (h 150 34), aI 4, aR 150]) (h1 := h) rfl ?_
      refine A_callV hM rfl rfl (mem_GW 1956 (by decide +kernel) rfl) mi_X12_wrongs (As := [aI 4, aI (h 150 34)]) (rest := []) (ct_X12_wrongs 4 (h 150 34) h (OK_bind hh)) (by decide) ⟨Nat.zero_le _, Nat.zero_le _⟩ rfl rfl (Nat.le_of_ble_eq_true rfl) (by decide) rfl (by decide) rfl (fun r F' h' hq1 => ?_)
      obtain ⟨rfl, rfl, hh⟩ := hq1
      obtain ⟨r11, rfl⟩ : ∃ z, z = h' := ⟨_, rfl⟩
      refine A_mask [true, false, true] (lv1 := [some (aR 150), none, some (aI r1)]) rfl ?_
      exact c_X12_clause_j22 hM r1 r11 hq hh
  · replace hh := OK_f hh hc
    refine A_blk hM.1 4 (lv1 := [some (aR 150), some (aI v1), some (aI r1)]) (s1 := [aI (h 150 34), aI 1, aR 150]) (h1 := h) rfl ?_
    refine A_callV hM rfl rfl (mem_GW 1956 (by decide +kernel) rfl) mi_X12_wrongs (As := [aI 1, aI (h 150 34)]) (rest := []) (ct_X12_wrongs 1 (h 150 34) h (OK_bind hh)) (by decide) ⟨Nat.zero_le _, Nat.zero_le _⟩ rfl rfl (Nat.le_of_ble_eq_true rfl) (by decide) rfl (by decide) rfl (fun r F' h' hq1 => ?_)
    obtain ⟨rfl, rfl, hh⟩ := hq1
    obtain ⟨r12, rfl⟩ : ∃ z, z = h' := ⟨_, rfl⟩
    refine A_go hM.1 rfl rfl ?_
    refine A_mask [true, false, true] (lv1 := [some (aR 150), none, some (aI r1)]) rfl ?_
    exact c_X12_clause_j22 hM r1 r12 hq hh

set_option maxRecDepth 20000 in
set_option maxHeartbeats 4000000 in
theorem ct_X12_clause {G : Gx} (v1 : Int) (h : Hp)   {P : Hp → Prop} (hh : OK (X12_clause v1 h) P) : CT G yX12_clause M_X12_clause 8 0 0 FN h [aR 150, aI v1] (fun r F' h' => F' = FN ∧ r = none ∧ P h') :=
  CT.of (by decide +kernel) rfl (Nat.le_of_ble_eq_true rfl) k_X12_clause fun k0 _ _ hM => c_X12_clause hM v1 h (fun z hz => ⟨rfl, rfl, hz⟩) hh

theorem mi_X12_readsText : MIv yX12_readsText M_X12_readsText 2 := ⟨⟨(mem_GW 1939 (by decide +kernel) rfl), (mem_GW 135 (by decide +kernel) rfl), by decide +kernel, by decide +kernel, by decide +kernel, by decide⟩, (mem_GW 1938 (by decide +kernel) rfl), (mem_GW 61 (by decide +kernel) rfl)⟩
set_option maxRecDepth 20000 in
set_option maxHeartbeats 4000000 in
theorem c_X12_readsText_j63 {k0 : K0} {G : Gx} {Qp : Option AV → Fx → Hp → Prop} (hM : MB (KM k0 0 0 Qp) G M_X12_readsText 9) (v1 : Int) (v3 : Int) (h : Hp)   {P : ((Int × Hp) ⊕ (Hp)) → Prop} (hin : ∀ y : Int × Hp, P (.inl y) → ATk (KM k0 0 0 Qp) FN 0 0 M_X12_readsText 32 [some (aR 150), some (aI v1), none, some (aI y.1), none] [] y.2) (hout0 : ∀ y : Hp, P (.inr y) → ATk (KM k0 0 0 Qp) FN 0 0 M_X12_readsText 70 [some (aR 150), some (aI v1), none, none, none] [] y) (hh : OK (X12_readsText_j63 v1 v3 h) P) : ATk (KM k0 0 0 Qp) FN 0 0 M_X12_readsText 63 [some (aR 150), some (aI v1), none, some (aI v3), none] [] h := by
  unfold X12_readsText_j63 at hh
  refine A_blk hM.1 6 (lv1 := [some (aR 150), some (aI v1), none, some (aI v3), none]) (s1 := []) (h1 := setH h 150 34 ((h 150 34) + 1)) rfl ?_
  refine A_go hM.1 rfl rfl ?_
  exact hin (v3, setH h 150 34 ((h 150 34) + 1)) hh

set_option maxRecDepth 20000 in
set_option maxHeartbeats 4000000 in
theorem c_X12_readsText_j51 {k0 : K0} {G : Gx} {Qp : Option AV → Fx → Hp → Prop} (hM : MB (KM k0 0 0 Qp) G M_X12_readsText 9) (v1 : Int) (s0 : Int) (h : Hp)   {P : ((Int × Hp) ⊕ (Hp)) → Prop} (hin : ∀ y : Int × Hp, P (.inl y) → ATk (KM k0 0 0 Qp) FN 0 0 M_X12_readsText 32 [some (aR 150), some (aI v1), none, some (aI y.1), none] [] y.2) (hout0 : ∀ y : Hp, P (.inr y) → ATk (KM k0 0 0 Qp) FN 0 0 M_X12_readsText 70 [some (aR 150), some (aI v1), none, none, none] [] y) (hh : OK (X12_readsText_j51 v1 s0 h) P) : ATk (KM k0 0 0 Qp) FN 0 0 M_X12_readsText 51 [some (aR 150), some (aI v1), none, none, none] [aI s0] h := by
  unfold X12_readsText_j51 at hh
  refine A_blk hM.1 2 (lv1 := [some (aR 150), some (aI v1), none, some (aI s0), none]) (s1 := [aI s0]) (h1 := h) rfl ?_
  refine A_ifc hM.1 rfl rfl (fun hc => ?_) (fun hc => ?_)
  · replace hh := OK_t hh hc
    exact hin (s0, h) hh
  · replace hh := OK_f hh hc
    refine A_blk hM.1 1 (lv1 := [some (aR 150), some (aI v1), none, some (aI s0), none]) (s1 := [aR 150]) (h1 := h) rfl ?_
    refine A_callV hM rfl rfl (mem_GW 1949 (by decide +kernel) rfl) mi_X12_here (As := []) (rest := []) (ct_X12_here h (OK_bind hh)) (by decide) ⟨Nat.zero_le _, Nat.zero_le _⟩ rfl rfl (Nat.le_of_ble_eq_true rfl) (by decide) rfl (by decide) rfl (fun r F' h' hq1 => ?_)
    obtain ⟨rfl, r5, rfl, e9, hh⟩ := hq1
    subst h'
    refine A_blk hM.1 1 (lv1 := [some (aR 150), some (aI v1), none, some (aI s0), none]) (s1 := [aI 59, aI r5]) (h1 := h) rfl ?_
    refine A_icmp hM.1 rfl rfl (fun hc => ?_) (fun hc => ?_)
    · replace hh := OK_t hh hc
      exact c_X12_readsText_j63 hM v1 s0 h hin hout0 hh
    · replace hh := OK_f hh hc
      refine A_blk hM.1 4 (lv1 := [some (aR 150), some (aI v1), none, some (aI s0), none]) (s1 := [aI (h 150 34), aI 1, aR 150]) (h1 := h) rfl ?_
      refine A_callV hM rfl rfl (mem_GW 1956 (by decide +kernel) rfl) mi_X12_wrongs (As := [aI 1, aI (h 150 34)]) (rest := []) (ct_X12_wrongs 1 (h 150 34) h (OK_bind hh)) (by decide) ⟨Nat.zero_le _, Nat.zero_le _⟩ rfl rfl (Nat.le_of_ble_eq_true rfl) (by decide) rfl (by decide) rfl (fun r F' h' hq1 => ?_)
      obtain ⟨rfl, rfl, hh⟩ := hq1
      obtain ⟨r6, rfl⟩ : ∃ z, z = h' := ⟨_, rfl⟩
      exact c_X12_readsText_j63 hM v1 s0 r6 hin hout0 hh

set_option maxRecDepth 20000 in
set_option maxHeartbeats 4000000 in
theorem c_X12_readsText_j50 {k0 : K0} {G : Gx} {Qp : Option AV → Fx → Hp → Prop} (hM : MB (KM k0 0 0 Qp) G M_X12_readsText 9) (v1 : Int) (h : Hp)   {P : ((Int × Hp) ⊕ (Hp)) → Prop} (hin : ∀ y : Int × Hp, P (.inl y) → ATk (KM k0 0 0 Qp) FN 0 0 M_X12_readsText 32 [some (aR 150), some (aI v1), none, some (aI y.1), none] [] y.2) (hout0 : ∀ y : Hp, P (.inr y) → ATk (KM k0 0 0 Qp) FN 0 0 M_X12_readsText 70 [some (aR 150), some (aI v1), none, none, none] [] y) (hh : OK (X12_readsText_j50 v1 h) P) : ATk (KM k0 0 0 Qp) FN 0 0 M_X12_readsText 50 [some (aR 150), some (aI v1), none, none, none] [] h := by
  unfold X12_readsText_j50 at hh
  refine A_blk hM.1 1 (lv1 := [some (aR 150), some (aI v1), none, none, none]) (s1 := [aI 0]) (h1 := h) rfl ?_
  exact c_X12_readsText_j51 hM v1 0 h hin hout0 hh

set_option maxRecDepth 20000 in
set_option maxHeartbeats 4000000 in
theorem c_X12_readsText_l32 {k0 : K0} {G : Gx} {Qp : Option AV → Fx → Hp → Prop} (hM : MB (KM k0 0 0 Qp) G M_X12_readsText 9) (v1 : Int) (x : Int × Hp)   {P : ((Int × Hp) ⊕ (Hp)) → Prop} (hin : ∀ y : Int × Hp, P (.inl y) → ATk (KM k0 0 0 Qp) FN 0 0 M_X12_readsText 32 [some (aR 150), some (aI v1), none, some (aI y.1), none] [] y.2) (hout0 : ∀ y : Hp, P (.inr y) → ATk (KM k0 0 0 Qp) FN 0 0 M_X12_readsText 70 [some (aR 150), some (aI v1), none, none, none] [] y) (hh : OK (X12_readsText_l32 v1 x) P) : ATk (KM k0 0 0 Qp) FN 0 0 M_X12_readsText 32 [some (aR 150), some (aI v1), none, some (aI x.1), none] [] x.2 := by
  unfold X12_readsText_l32 at hh
  refine A_blk hM.1 1 (lv1 := [some (aR 150), some (aI v1), none, some (aI x.1), none]) (s1 := [aI x.1]) (h1 := x.2) rfl ?_
  refine A_ifc hM.1 rfl rfl (fun hc => ?_) (fun hc => ?_)
  · replace hh := OK_t hh hc
    refine A_mask [true, true, true, false, true] (lv1 := [some (aR 150), some (aI v1), none, none, none]) rfl ?_
    exact hout0 x.2 hh
  · replace hh := OK_f hh hc
    refine A_blk hM.1 1 (lv1 := [some (aR 150), some (aI v1), none, some (aI x.1), none]) (s1 := [aR 150]) (h1 := x.2) rfl ?_
    refine A_callV hM rfl rfl (mem_GW 1941 (by decide +kernel) rfl) mi_X12_isGood (As := []) (rest := []) (ct_X12_isGood x.2 (OK_bind hh)) (by decide) ⟨Nat.zero_le _, Nat.zero_le _⟩ rfl rfl (Nat.le_of_ble_eq_true rfl) (by decide) rfl (by decide) rfl (fun r F' h' hq1 => ?_)
    obtain ⟨rfl, r2, rfl, e9, hh⟩ := hq1
    subst h'
    refine A_ifc hM.1 rfl rfl (fun hc => ?_) (fun hc => ?_)
    · replace hh := OK_t hh hc
      refine A_mask [true, true, true, false, true] (lv1 := [some (aR 150), some (aI v1), none, none, none]) rfl ?_
      exact hout0 x.2 hh
    · replace hh := OK_f hh hc
      refine A_blk hM.1 2 (lv1 := [some (aR 150), some (aI v1), none, some (aI x.1), none]) (s1 := [aI v1, aR 150]) (h1 := x.2) rfl ?_
      refine A_callV hM rfl rfl (mem_GW 1945 (by decide +kernel) rfl) mi_X12_clause (As := [aI v1]) (rest := []) (ct_X12_clause v1 x.2 (OK_bind hh)) (by decide) ⟨Nat.zero_le _, Nat.zero_le _⟩ rfl rfl (Nat.le_of_ble_eq_true rfl) (by decide) rfl (by decide) rfl (fun r F' h' hq1 => ?_)
      obtain ⟨rfl, rfl, hh⟩ := hq1
      obtain ⟨r3, rfl⟩ : ∃ z, z = h' := ⟨_, rfl⟩
      refine A_blk hM.1 1 (lv1 := [some (aR 150), some (aI v1), none, some (aI x.1), none]) (s1 := [aR 150]) (h1 := r3) rfl ?_
      refine A_callV hM rfl rfl (mem_GW 1941 (by decide +kernel) rfl) mi_X12_isGood (As := []) (rest := []) (ct_X12_isGood r3 (OK_bind hh)) (by decide) ⟨Nat.zero_le _, Nat.zero_le _⟩ rfl rfl (Nat.le_of_ble_eq_true rfl) (by decide) rfl (by decide) rfl (fun r F' h' hq1 => ?_)
      obtain ⟨rfl, r4, rfl, e9, hh⟩ := hq1
      subst h'
      refine A_ifc hM.1 rfl rfl (fun hc => ?_) (fun hc => ?_)
      · replace hh := OK_t hh hc
        refine A_mask [true, true, true, false, true] (lv1 := [some (aR 150), some (aI v1), none, none, none]) rfl ?_
        exact c_X12_readsText_j50 hM v1 r3 hin hout0 hh
      · replace hh := OK_f hh hc
        refine A_blk hM.1 4 (lv1 := [some (aR 150), some (aI v1), none, some (aI x.1), none]) (s1 := [aI (r3 150 35), aI (r3 150 34)]) (h1 := r3) rfl ?_
        refine A_icmp hM.1 rfl rfl (fun hc => ?_) (fun hc => ?_)
        · replace hh := OK_t hh hc
          refine A_mask [true, true, true, false, true] (lv1 := [some (aR 150), some (aI v1), none, none, none]) rfl ?_
          exact c_X12_readsText_j50 hM v1 r3 hin hout0 hh
        · replace hh := OK_f hh hc
          refine A_blk hM.1 1 (lv1 := [some (aR 150), some (aI v1), none, some (aI x.1), none]) (s1 := [aI 1]) (h1 := r3) rfl ?_
          refine A_go hM.1 rfl rfl ?_
          refine A_mask [true, true, true, false, true] (lv1 := [some (aR 150), some (aI v1), none, none, none]) rfl ?_
          exact c_X12_readsText_j51 hM v1 1 r3 hin hout0 hh

set_option maxRecDepth 20000 in
set_option maxHeartbeats 4000000 in
theorem c_X12_readsText_l78 {k0 : K0} {G : Gx} {Qp : Option AV → Fx → Hp → Prop} (hM : MB (KM k0 0 0 Qp) G M_X12_readsText 9) (v1 : Int) (x : Int × Hp)   {P : ((Int × Hp) ⊕ (Hp)) → Prop} (hin : ∀ y : Int × Hp, P (.inl y) → ATk (KM k0 0 0 Qp) FN 0 0 M_X12_readsText 78 [some (aR 150), some (aI v1), none, none, some (aI y.1)] [] y.2) (hout0 : ∀ y : Hp, P (.inr y) → ATk (KM k0 0 0 Qp) FN 0 0 M_X12_readsText 144 [some (aR 150), some (aI v1), none, none, none] [] y) (hh : OK (X12_readsText_l78 v1 x) P) : ATk (KM k0 0 0 Qp) FN 0 0 M_X12_readsText 78 [some (aR 150), some (aI v1), none, none, some (aI x.1)] [] x.2 := by
  unfold X12_readsText_l78 at hh
  refine A_blk hM.1 3 (lv1 := [some (aR 150), some (aI v1), none, none, some (aI x.1)]) (s1 := [aI (x.2 150 37), aI x.1]) (h1 := x.2) rfl ?_
  refine A_icmp hM.1 rfl rfl (fun hc => ?_) (fun hc => ?_)
  · replace hh := OK_t hh hc
    refine A_mask [true, true, true, true, false] (lv1 := [some (aR 150), some (aI v1), none, none, none]) rfl ?_
    exact hout0 x.2 hh
  · replace hh := OK_f hh hc
    refine A_blk hM.1 10 (lv1 := [some (aR 150), some (aI v1), none, none, some (aI x.1)]) (s1 := [aI x.1, aR 173, aI ((12 * v1) + x.1), aR 167]) (h1 := x.2) rfl ?_
    obtain ⟨g8, hh⟩ := OK_g hh
    refine A_ald hM.1 rfl (Or.inl ⟨rfl, rfl⟩) rfl (by decide) rfl g8 ?_
    obtain ⟨g9, hh⟩ := OK_g hh
    refine A_ast hM.1 rfl (Or.inl ⟨rfl, rfl, rfl⟩) rfl rfl rfl g9 ?_
    refine A_blk hM.1 13 (lv1 := [some (aR 150), some (aI v1), none, none, some (aI x.1)]) (s1 := [aI x.1, aR 174, aI (160 * v1), aI ((12 * v1) + x.1), aR 168]) (h1 := setH x.2 167 ((w32 ((12 * v1) + x.1)).toNat) (x.2 173 ((w32 x.1).toNat))) rfl ?_
    obtain ⟨g10, hh⟩ := OK_g hh
    refine A_ald hM.1 rfl (Or.inl ⟨rfl, rfl⟩) rfl (by decide) rfl g10 ?_
    refine A_blk hM.1 1 (lv1 := [some (aR 150), some (aI v1), none, none, some (aI x.1)]) (s1 := [aI ((160 * v1) + (x.2 174 ((w32 x.1).toNat))), aI ((12 * v1) + x.1), aR 168]) (h1 := setH x.2 167 ((w32 ((12 * v1) + x.1)).toNat) (x.2 173 ((w32 x.1).toNat))) rfl ?_
    obtain ⟨g11, hh⟩ := OK_g hh
    refine A_ast hM.1 rfl (Or.inl ⟨rfl, rfl, rfl⟩) rfl rfl rfl g11 ?_
    refine A_blk hM.1 13 (lv1 := [some (aR 150), some (aI v1), none, none, some (aI x.1)]) (s1 := [aI x.1, aR 175, aI (160 * v1), aI ((12 * v1) + x.1), aR 169]) (h1 := setH (setH x.2 167 ((w32 ((12 * v1) + x.1)).toNat) (x.2 173 ((w32 x.1).toNat))) 168 ((w32 ((12 * v1) + x.1)).toNat) ((160 * v1) + (x.2 174 ((w32 x.1).toNat)))) rfl ?_
    obtain ⟨g12, hh⟩ := OK_g hh
    refine A_ald hM.1 rfl (Or.inl ⟨rfl, rfl⟩) rfl (by decide) rfl g12 ?_
    refine A_blk hM.1 1 (lv1 := [some (aR 150), some (aI v1), none, none, some (aI x.1)]) (s1 := [aI ((160 * v1) + (x.2 175 ((w32 x.1).toNat))), aI ((12 * v1) + x.1), aR 169]) (h1 := setH (setH x.2 167 ((w32 ((12 * v1) + x.1)).toNat) (x.2 173 ((w32 x.1).toNat))) 168 ((w32 ((12 * v1) + x.1)).toNat) ((160 * v1) + (x.2 174 ((w32 x.1).toNat)))) rfl ?_
    obtain ⟨g13, hh⟩ := OK_g hh
    refine A_ast hM.1 rfl (Or.inl ⟨rfl, rfl, rfl⟩) rfl rfl rfl g13 ?_
    refine A_blk hM.1 13 (lv1 := [some (aR 150), some (aI v1), none, none, some (aI x.1)]) (s1 := [aI x.1, aR 176, aI (160 * v1), aI ((12 * v1) + x.1), aR 170]) (h1 := setH (setH (setH x.2 167 ((w32 ((12 * v1) + x.1)).toNat) (x.2 173 ((w32 x.1).toNat))) 168 ((w32 ((12 * v1) + x.1)).toNat) ((160 * v1) + (x.2 174 ((w32 x.1).toNat)))) 169 ((w32 ((12 * v1) + x.1)).toNat) ((160 * v1) + (x.2 175 ((w32 x.1).toNat)))) rfl ?_
    obtain ⟨g14, hh⟩ := OK_g hh
    refine A_ald hM.1 rfl (Or.inl ⟨rfl, rfl⟩) rfl (by decide) rfl g14 ?_
    refine A_blk hM.1 1 (lv1 := [some (aR 150), some (aI v1), none, none, some (aI x.1)]) (s1 := [aI ((160 * v1) + (x.2 176 ((w32 x.1).toNat))), aI ((12 * v1) + x.1), aR 170]) (h1 := setH (setH (setH x.2 167 ((w32 ((12 * v1) + x.1)).toNat) (x.2 173 ((w32 x.1).toNat))) 168 ((w32 ((12 * v1) + x.1)).toNat) ((160 * v1) + (x.2 174 ((w32 x.1).toNat)))) 169 ((w32 ((12 * v1) + x.1)).toNat) ((160 * v1) + (x.2 175 ((w32 x.1).toNat)))) rfl ?_
    obtain ⟨g15, hh⟩ := OK_g hh
    refine A_ast hM.1 rfl (Or.inl ⟨rfl, rfl, rfl⟩) rfl rfl rfl g15 ?_
    refine A_blk hM.1 1 (lv1 := [some (aR 150), some (aI v1), none, none, some (aI (x.1 + 1))]) (s1 := []) (h1 := setH (setH (setH (setH x.2 167 ((w32 ((12 * v1) + x.1)).toNat) (x.2 173 ((w32 x.1).toNat))) 168 ((w32 ((12 * v1) + x.1)).toNat) ((160 * v1) + (x.2 174 ((w32 x.1).toNat)))) 169 ((w32 ((12 * v1) + x.1)).toNat) ((160 * v1) + (x.2 175 ((w32 x.1).toNat)))) 170 ((w32 ((12 * v1) + x.1)).toNat) ((160 * v1) + (x.2 176 ((w32 x.1).toNat)))) rfl ?_
    refine A_go hM.1 rfl rfl ?_
    exact hin (x.1 + 1, setH (setH (setH (setH x.2 167 ((w32 ((12 * v1) + x.1)).toNat) (x.2 173 ((w32 x.1).toNat))) 168 ((w32 ((12 * v1) + x.1)).toNat) ((160 * v1) + (x.2 174 ((w32 x.1).toNat)))) 169 ((w32 ((12 * v1) + x.1)).toNat) ((160 * v1) + (x.2 175 ((w32 x.1).toNat)))) 170 ((w32 ((12 * v1) + x.1)).toNat) ((160 * v1) + (x.2 176 ((w32 x.1).toNat)))) hh

set_option maxRecDepth 20000 in
set_option maxHeartbeats 4000000 in
theorem c_X12_readsText_l146 {k0 : K0} {G : Gx} {Qp : Option AV → Fx → Hp → Prop} (hM : MB (KM k0 0 0 Qp) G M_X12_readsText 9) (v1 : Int) (x : Int × Hp)   {P : ((Int × Hp) ⊕ (Hp)) → Prop} (hin : ∀ y : Int × Hp, P (.inl y) → ATk (KM k0 0 0 Qp) FN 0 0 M_X12_readsText 146 [some (aR 150), some (aI v1), none, none, some (aI y.1)] [] y.2) (hout0 : ∀ y : Hp, P (.inr y) → ATk (KM k0 0 0 Qp) FN 0 0 M_X12_readsText 176 [some (aR 150), some (aI v1), none, none, none] [] y) (hh : OK (X12_readsText_l146 v1 x) P) : ATk (KM k0 0 0 Qp) FN 0 0 M_X12_readsText 146 [some (aR 150), some (aI v1), none, none, some (aI x.1)] [] x.2 := by
  unfold X12_readsText_l146 at hh
  refine A_blk hM.1 3 (lv1 := [some (aR 150), some (aI v1), none, none, some (aI x.1)]) (s1 := [aI (x.2 150 38), aI x.1]) (h1 := x.2) rfl ?_
  refine A_icmp hM.1 rfl rfl (fun hc => ?_) (fun hc => ?_)
  · replace hh := OK_t hh hc
    refine A_mask [true, true, true, true, false] (lv1 := [some (aR 150), some (aI v1), none, none, none]) rfl ?_
    exact hout0 x.2 hh
  · replace hh := OK_f hh hc
    refine A_blk hM.1 10 (lv1 := [some (aR 150), some (aI v1), none, none, some (aI x.1)]) (s1 := [aI x.1, aR 177, aI ((160 * v1) + x.1), aR 171]) (h1 := x.2) rfl ?_
    obtain ⟨g17, hh⟩ := OK_g hh
    refine A_ald hM.1 rfl (Or.inl ⟨rfl, rfl⟩) rfl (by decide) rfl g17 ?_
    obtain ⟨g18, hh⟩ := OK_g hh
    refine A_ast hM.1 rfl (Or.inl ⟨rfl, rfl, rfl⟩) rfl rfl rfl g18 ?_
    refine A_blk hM.1 10 (lv1 := [some (aR 150), some (aI v1), none, none, some (aI x.1)]) (s1 := [aI x.1, aR 178, aI ((160 * v1) + x.1), aR 172]) (h1 := setH x.2 171 ((w32 ((160 * v1) + x.1)).toNat) (x.2 177 ((w32 x.1).toNat))) rfl ?_
    obtain ⟨g19, hh⟩ := OK_g hh
    refine A_ald hM.1 rfl (Or.inl ⟨rfl, rfl⟩) rfl (by decide) rfl g19 ?_
    obtain ⟨g20, hh⟩ := OK_g hh
    refine A_ast hM.1 rfl (Or.inl ⟨rfl, rfl, rfl⟩) rfl rfl rfl g20 ?_
    refine A_blk hM.1 1 (lv1 := [some (aR 150), some (aI v1), none, none, some (aI (x.1 + 1))]) (s1 := []) (h1 := setH (setH x.2 171 ((w32 ((160 * v1) + x.1)).toNat) (x.2 177 ((w32 x.1).toNat))) 172 ((w32 ((160 * v1) + x.1)).toNat) (x.2 178 ((w32 x.1).toNat))) rfl ?_
    refine A_go hM.1 rfl rfl ?_
    exact hin (x.1 + 1, setH (setH x.2 171 ((w32 ((160 * v1) + x.1)).toNat) (x.2 177 ((w32 x.1).toNat))) 172 ((w32 ((160 * v1) + x.1)).toNat) (x.2 178 ((w32 x.1).toNat))) hh

set_option maxRecDepth 20000 in
set_option maxHeartbeats 4000000 in
theorem c_X12_readsText {k0 : K0} {G : Gx} {Qp : Option AV → Fx → Hp → Prop} (hM : MB (KM k0 0 0 Qp) G M_X12_readsText 9) (v1 : Int) (v2 : Int) (h : Hp)   {P : (Int × Hp) → Prop} (hq : ∀ z : Int × Hp, P z → Qp (some (aI z.1)) FN z.2) (hh : OK (X12_readsText v1 v2 h) P) : ATk (KM k0 0 0 Qp) FN 0 0 M_X12_readsText 0 [some (aR 150), some (aI v1), some (aI v2), none, none] [] h := by
  unfold X12_readsText at hh
  refine A_blk hM.1 4 (lv1 := [some (aR 150), some (aI v1), some (aI v2), none, none]) (s1 := [aL 160, aL 1, aL (w32 v2)]) (h1 := h) rfl ?_
  refine A_callS hM rfl rfl (mem_GW 1879 (by decide +kernel) rfl) mi_X12_lies ms_X12_lies (As := [aL (w32 v2), aL 1, aL 160]) (rest := []) (ct_X12_lies (w32 v2) 1 160 h (OK_bind hh)) (by decide) ⟨Nat.zero_le _, Nat.zero_le _⟩ rfl rfl (Nat.le_of_ble_eq_true rfl) (fun r F' h' hq1 => ?_)
  obtain ⟨rfl, r1, rfl, e9, hh⟩ := hq1
  subst h'
  refine A_ifc hM.1 rfl rfl (fun hc => ?_) (fun hc => ?_)
  · replace hh := OK_t hh hc
    refine A_blk hM.1 1 (lv1 := [some (aR 150), some (aI v1), some (aI v2), none, none]) (s1 := [aI (-1)]) (h1 := h) rfl ?_
    exact A_reti hM.1 rfl rfl rfl (hq ((-1), h) hh)
  · replace hh := OK_f hh hc
    refine A_blk hM.1 3 (lv1 := [some (aR 150), some (aI v1), some (aI v2), none, none]) (s1 := [aI (h 150 1), aI v2]) (h1 := h) rfl ?_
    refine A_icmp hM.1 rfl rfl (fun hc => ?_) (fun hc => ?_)
    · replace hh := OK_t hh hc
      refine A_blk hM.1 20 (lv1 := [some (aR 150), some (aI v1), some (aI v2), some (aI 1), none]) (s1 := []) (h1 := setH (setH (setH (setH (setH (setH h 150 1 0) 150 34 0) 150 35 v2) 150 36 0) 150 37 0) 150 38 0) rfl ?_
      refine A_mask [true, true, false, true, true] (lv1 := [some (aR 150), some (aI v1), none, some (aI 1), none]) rfl ?_
      refine iter_ok (s := (1, setH (setH (setH (setH (setH (setH h 150 1 0) 150 34 0) 150 35 v2) 150 36 0) 150 37 0) 150 38 0)) (Gp := fun z => ATk (KM k0 0 0 Qp) FN 0 0 M_X12_readsText 32 [some (aR 150), some (aI v1), none, some (aI z.1), none] [] z.2) (E := fun z => ATk (KM k0 0 0 Qp) FN 0 0 M_X12_readsText 70 [some (aR 150), some (aI v1), none, none, none] [] z) (fun z P1 g1 g2 g3 => c_X12_readsText_l32 hM v1 z g2 g3 g1) (OK_bind hh) (fun x7 hh => ?_)
      refine A_blk hM.1 2 (lv1 := [some (aR 150), some (aI v1), none, none, none]) (s1 := [aI (x7 150 36)]) (h1 := x7) rfl ?_
      refine A_ifc hM.1 rfl rfl (fun hc => ?_) (fun hc => ?_)
      · replace hh := OK_t hh hc
        refine A_blk hM.1 2 (lv1 := [some (aR 150), some (aI v1), none, none, some (aI 0)]) (s1 := []) (h1 := x7) rfl ?_
        refine iter_ok (s := (0, x7)) (Gp := fun z => ATk (KM k0 0 0 Qp) FN 0 0 M_X12_readsText 78 [some (aR 150), some (aI v1), none, none, some (aI z.1)] [] z.2) (E := fun z => ATk (KM k0 0 0 Qp) FN 0 0 M_X12_readsText 144 [some (aR 150), some (aI v1), none, none, none] [] z) (fun z P1 g1 g2 g3 => c_X12_readsText_l78 hM v1 z g2 g3 g1) (OK_bind hh) (fun x16 hh => ?_)
        refine A_blk hM.1 2 (lv1 := [some (aR 150), some (aI v1), none, none, some (aI 0)]) (s1 := []) (h1 := x16) rfl ?_
        refine iter_ok (s := (0, x16)) (Gp := fun z => ATk (KM k0 0 0 Qp) FN 0 0 M_X12_readsText 146 [some (aR 150), some (aI v1), none, none, some (aI z.1)] [] z.2) (E := fun z => ATk (KM k0 0 0 Qp) FN 0 0 M_X12_readsText 176 [some (aR 150), some (aI v1), none, none, none] [] z) (fun z P1 g1 g2 g3 => c_X12_readsText_l146 hM v1 z g2 g3 g1) (OK_bind hh) (fun x21 hh => ?_)
        refine A_blk hM.1 5 (lv1 := [some (aR 150), some (aI v1), none, none, none]) (s1 := [aI (x21 150 37), aI v1, aR 166]) (h1 := x21) rfl ?_
        obtain ⟨g22, hh⟩ := OK_g hh
        refine A_ast hM.1 rfl (Or.inl ⟨rfl, rfl, rfl⟩) rfl rfl rfl g22 ?_
        refine A_blk hM.1 2 (lv1 := [some (aR 150), some (aI v1), none, none, none]) (s1 := [aI (x21 150 37)]) (h1 := setH x21 166 ((w32 v1).toNat) (x21 150 37)) rfl ?_
        exact A_reti hM.1 rfl rfl rfl (hq (x21 150 37, setH x21 166 ((w32 v1).toNat) (x21 150 37)) hh)
      · replace hh := OK_f hh hc
        refine A_blk hM.1 2 (lv1 := [some (aR 150), some (aI v1), none, none, none]) (s1 := [aI (x7 150 36)]) (h1 := x7) rfl ?_
        exact A_reti hM.1 rfl rfl rfl (hq (x7 150 36, x7) hh)
    · replace hh := OK_f hh hc
      refine A_blk hM.1 1 (lv1 := [some (aR 150), some (aI v1), some (aI v2), none, none]) (s1 := [aI (-1)]) (h1 := h) rfl ?_
      exact A_reti hM.1 rfl rfl rfl (hq ((-1), h) hh)

set_option maxRecDepth 20000 in
set_option maxHeartbeats 4000000 in
theorem ct_X12_readsText {G : Gx} (v1 : Int) (v2 : Int) (h : Hp)   {P : (Int × Hp) → Prop} (hh : OK (X12_readsText v1 v2 h) P) : CT G yX12_readsText M_X12_readsText 9 0 0 FN h [aR 150, aI v1, aI v2] (fun r F' h' => F' = FN ∧ ∃ z, r = some (aI z.1) ∧ h' = z.2 ∧ P z) :=
  CT.of (by decide +kernel) rfl (Nat.le_of_ble_eq_true rfl) k_X12_readsText fun k0 _ _ hM => c_X12_readsText hM v1 v2 h (fun z hz => ⟨rfl, z, rfl, rfl, hz⟩) hh

theorem mi_X12_way : MIv yX12_way M_X12_way 2 := ⟨⟨(mem_GW 1935 (by decide +kernel) rfl), (mem_GW 135 (by decide +kernel) rfl), by decide +kernel, by decide +kernel, by decide +kernel, by decide⟩, (mem_GW 1933 (by decide +kernel) rfl), (mem_GW 1934 (by decide +kernel) rfl)⟩
set_option maxRecDepth 20000 in
set_option maxHeartbeats 4000000 in
theorem c_X12_way {k0 : K0} {G : Gx} {Qp : Option AV → Fx → Hp → Prop} (hM : MB (KM k0 0 0 Qp) G M_X12_way 10) (v1 : Int) (v2 : Int) (h : Hp)   {P : (Int × Hp) → Prop} (hq : ∀ z : Int × Hp, P z → Qp (some (aI z.1)) FN z.2) (hh : OK (X12_way v1 v2 h) P) : ATk (KM k0 0 0 Qp) FN 0 0 M_X12_way 0 [some (aR 150), some (aI v1), some (aI v2)] [] h := by
  unfold X12_way at hh
  refine A_blk hM.1 2 (lv1 := [some (aR 150), some (aI v1), some (aI v2)]) (s1 := [aI v1, aR 150]) (h1 := h) rfl ?_
  refine A_callV hM rfl rfl (mem_GW 1922 (by decide +kernel) rfl) mi_X12_isWriter (As := [aI v1]) (rest := []) (ct_X12_isWriter v1 h (OK_bind hh)) (by decide) ⟨Nat.zero_le _, Nat.zero_le _⟩ rfl rfl (Nat.le_of_ble_eq_true rfl) (by decide) rfl (by decide) rfl (fun r F' h' hq1 => ?_)
  obtain ⟨rfl, r1, rfl, e9, hh⟩ := hq1
  subst h'
  refine A_ifc hM.1 rfl rfl (fun hc => ?_) (fun hc => ?_)
  · replace hh := OK_t hh hc
    refine A_blk hM.1 1 (lv1 := [some (aR 150), some (aI v1), some (aI v2)]) (s1 := [aI (-1)]) (h1 := h) rfl ?_
    exact A_reti hM.1 rfl rfl rfl (hq ((-1), h) hh)
  · replace hh := OK_f hh hc
    refine A_blk hM.1 3 (lv1 := [some (aR 150), some (aI v1), some (aI v2)]) (s1 := [aI v2, aI v1, aR 150]) (h1 := h) rfl ?_
    refine A_callV hM rfl rfl (mem_GW 1936 (by decide +kernel) rfl) mi_X12_readsText (As := [aI v1, aI v2]) (rest := []) (ct_X12_readsText v1 v2 h (OK_bind hh)) (by decide) ⟨Nat.zero_le _, Nat.zero_le _⟩ rfl rfl (Nat.le_of_ble_eq_true rfl) (by decide) rfl (by decide) rfl (fun r F' h' hq1 => ?_)
    obtain ⟨rfl, r2, rfl, e9, hh⟩ := hq1
    subst h'
    refine A_go hM.1 rfl rfl ?_
    exact A_reti hM.1 rfl rfl rfl (hq (r2.1, r2.2) hh)

set_option maxRecDepth 20000 in
set_option maxHeartbeats 4000000 in
theorem ct_X12_way {G : Gx} (v1 : Int) (v2 : Int) (h : Hp)   {P : (Int × Hp) → Prop} (hh : OK (X12_way v1 v2 h) P) : CT G yX12_way M_X12_way 10 0 0 FN h [aR 150, aI v1, aI v2] (fun r F' h' => F' = FN ∧ ∃ z, r = some (aI z.1) ∧ h' = z.2 ∧ P z) :=
  CT.of (by decide +kernel) rfl (Nat.le_of_ble_eq_true rfl) k_X12_way fun k0 _ _ hM => c_X12_way hM v1 v2 h (fun z hz => ⟨rfl, z, rfl, rfl, hz⟩) hh

theorem mi_X12_plan : MIv yX12_plan M_X12_plan 1 := ⟨⟨(mem_GW 2037 (by decide +kernel) rfl), (mem_GW 135 (by decide +kernel) rfl), by decide +kernel, by decide +kernel, by decide +kernel, by decide⟩, (mem_GW 2035 (by decide +kernel) rfl), (mem_GW 2036 (by decide +kernel) rfl)⟩
set_option maxRecDepth 20000 in
set_option maxHeartbeats 4000000 in
theorem c_X12_plan {k0 : K0} {G : Gx} {Qp : Option AV → Fx → Hp → Prop} (hM : MB (KM k0 0 0 Qp) G M_X12_plan 10) (v1 : Int) (h : Hp)   {P : (Int × Hp) → Prop} (hq : ∀ z : Int × Hp, P z → Qp (some (aI z.1)) FN z.2) (hh : OK (X12_plan v1 h) P) : ATk (KM k0 0 0 Qp) FN 0 0 M_X12_plan 0 [some (aR 150), some (aI v1)] [] h := by
  unfold X12_plan at hh
  refine A_blk hM.1 3 (lv1 := [some (aR 150), some (aI v1)]) (s1 := [aI v1, aI 8, aR 150]) (h1 := h) rfl ?_
  refine A_callV hM rfl rfl (mem_GW 1936 (by decide +kernel) rfl) mi_X12_readsText (As := [aI 8, aI v1]) (rest := []) (ct_X12_readsText 8 v1 h (OK_bind hh)) (by decide) ⟨Nat.zero_le _, Nat.zero_le _⟩ rfl rfl (Nat.le_of_ble_eq_true rfl) (by decide) rfl (by decide) rfl (fun r F' h' hq1 => ?_)
  obtain ⟨rfl, r1, rfl, e9, hh⟩ := hq1
  subst h'
  exact A_reti hM.1 rfl rfl rfl (hq (r1.1, r1.2) hh)

set_option maxRecDepth 20000 in
set_option maxHeartbeats 4000000 in
theorem ct_X12_plan {G : Gx} (v1 : Int) (h : Hp)   {P : (Int × Hp) → Prop} (hh : OK (X12_plan v1 h) P) : CT G yX12_plan M_X12_plan 10 0 0 FN h [aR 150, aI v1] (fun r F' h' => F' = FN ∧ ∃ z, r = some (aI z.1) ∧ h' = z.2 ∧ P z) :=
  CT.of (by decide +kernel) rfl (Nat.le_of_ble_eq_true rfl) k_X12_plan fun k0 _ _ hM => c_X12_plan hM v1 h (fun z hz => ⟨rfl, z, rfl, rfl, hz⟩) hh

theorem mi_X12_habit : MIv yX12_habit M_X12_habit 1 := ⟨⟨(mem_GW 2041 (by decide +kernel) rfl), (mem_GW 135 (by decide +kernel) rfl), by decide +kernel, by decide +kernel, by decide +kernel, by decide⟩, (mem_GW 2039 (by decide +kernel) rfl), (mem_GW 2040 (by decide +kernel) rfl)⟩
set_option maxRecDepth 20000 in
set_option maxHeartbeats 4000000 in
theorem c_X12_habit {k0 : K0} {G : Gx} {Qp : Option AV → Fx → Hp → Prop} (hM : MB (KM k0 0 0 Qp) G M_X12_habit 10) (v1 : Int) (h : Hp)   {P : (Int × Hp) → Prop} (hq : ∀ z : Int × Hp, P z → Qp (some (aI z.1)) FN z.2) (hh : OK (X12_habit v1 h) P) : ATk (KM k0 0 0 Qp) FN 0 0 M_X12_habit 0 [some (aR 150), some (aI v1)] [] h := by
  unfold X12_habit at hh
  refine A_blk hM.1 3 (lv1 := [some (aR 150), some (aI v1)]) (s1 := [aI v1, aI 9, aR 150]) (h1 := h) rfl ?_
  refine A_callV hM rfl rfl (mem_GW 1936 (by decide +kernel) rfl) mi_X12_readsText (As := [aI 9, aI v1]) (rest := []) (ct_X12_readsText 9 v1 h (OK_bind hh)) (by decide) ⟨Nat.zero_le _, Nat.zero_le _⟩ rfl rfl (Nat.le_of_ble_eq_true rfl) (by decide) rfl (by decide) rfl (fun r F' h' hq1 => ?_)
  obtain ⟨rfl, r1, rfl, e9, hh⟩ := hq1
  subst h'
  exact A_reti hM.1 rfl rfl rfl (hq (r1.1, r1.2) hh)

set_option maxRecDepth 20000 in
set_option maxHeartbeats 4000000 in
theorem ct_X12_habit {G : Gx} (v1 : Int) (h : Hp)   {P : (Int × Hp) → Prop} (hh : OK (X12_habit v1 h) P) : CT G yX12_habit M_X12_habit 10 0 0 FN h [aR 150, aI v1] (fun r F' h' => F' = FN ∧ ∃ z, r = some (aI z.1) ∧ h' = z.2 ∧ P z) :=
  CT.of (by decide +kernel) rfl (Nat.le_of_ble_eq_true rfl) k_X12_habit fun k0 _ _ hM => c_X12_habit hM v1 h (fun z hz => ⟨rfl, z, rfl, rfl, hz⟩) hh

theorem mi_X12_table : MIv yX12_table M_X12_table 1 := ⟨⟨(mem_GW 2045 (by decide +kernel) rfl), (mem_GW 135 (by decide +kernel) rfl), by decide +kernel, by decide +kernel, by decide +kernel, by decide⟩, (mem_GW 2043 (by decide +kernel) rfl), (mem_GW 2044 (by decide +kernel) rfl)⟩
set_option maxRecDepth 20000 in
set_option maxHeartbeats 4000000 in
theorem c_X12_table {k0 : K0} {G : Gx} {Qp : Option AV → Fx → Hp → Prop} (hM : MB (KM k0 0 0 Qp) G M_X12_table 10) (v1 : Int) (h : Hp)   {P : (Int × Hp) → Prop} (hq : ∀ z : Int × Hp, P z → Qp (some (aI z.1)) FN z.2) (hh : OK (X12_table v1 h) P) : ATk (KM k0 0 0 Qp) FN 0 0 M_X12_table 0 [some (aR 150), some (aI v1)] [] h := by
  unfold X12_table at hh
  refine A_blk hM.1 3 (lv1 := [some (aR 150), some (aI v1)]) (s1 := [aI v1, aI 10, aR 150]) (h1 := h) rfl ?_
  refine A_callV hM rfl rfl (mem_GW 1936 (by decide +kernel) rfl) mi_X12_readsText (As := [aI 10, aI v1]) (rest := []) (ct_X12_readsText 10 v1 h (OK_bind hh)) (by decide) ⟨Nat.zero_le _, Nat.zero_le _⟩ rfl rfl (Nat.le_of_ble_eq_true rfl) (by decide) rfl (by decide) rfl (fun r F' h' hq1 => ?_)
  obtain ⟨rfl, r1, rfl, e9, hh⟩ := hq1
  subst h'
  exact A_reti hM.1 rfl rfl rfl (hq (r1.1, r1.2) hh)

set_option maxRecDepth 20000 in
set_option maxHeartbeats 4000000 in
theorem ct_X12_table {G : Gx} (v1 : Int) (h : Hp)   {P : (Int × Hp) → Prop} (hh : OK (X12_table v1 h) P) : CT G yX12_table M_X12_table 10 0 0 FN h [aR 150, aI v1] (fun r F' h' => F' = FN ∧ ∃ z, r = some (aI z.1) ∧ h' = z.2 ∧ P z) :=
  CT.of (by decide +kernel) rfl (Nat.le_of_ble_eq_true rfl) k_X12_table fun k0 _ _ hM => c_X12_table hM v1 h (fun z hz => ⟨rfl, z, rfl, rfl, hz⟩) hh

theorem mi_X12_clears : MIv yX12_clears M_X12_clears 0 := ⟨⟨(mem_GW 2062 (by decide +kernel) rfl), (mem_GW 135 (by decide +kernel) rfl), by decide +kernel, by decide +kernel, by decide +kernel, by decide⟩, (mem_GW 2061 (by decide +kernel) rfl), (mem_GW 83 (by decide +kernel) rfl)⟩
set_option maxRecDepth 20000 in
set_option maxHeartbeats 4000000 in
theorem c_X12_clears {k0 : K0} {G : Gx} {Qp : Option AV → Fx → Hp → Prop} (hM : MB (KM k0 0 0 Qp) G M_X12_clears 1) (h : Hp)   {P : Hp → Prop} (hq : ∀ z : Hp, P z → Qp none FN z) (hh : OK (X12_clears h) P) : ATk (KM k0 0 0 Qp) FN 0 0 M_X12_clears 0 [some (aR 150)] [] h := by
  unfold X12_clears at hh
  refine A_blk hM.1 42 (lv1 := [some (aR 150)]) (s1 := []) (h1 := setH (setH (setH (setH (setH (setH (setH (setH (setH (setH (setH (setH (setH (setH h 150 44 0) 150 45 0) 150 46 0) 150 47 0) 150 48 0) 150 49 0) 150 50 0) 150 51 0) 150 52 0) 150 53 0) 150 54 0) 150 55 0) 150 56 0) 150 57 0) rfl ?_
  exact A_retv hM.1 rfl rfl rfl (hq (setH (setH (setH (setH (setH (setH (setH (setH (setH (setH (setH (setH (setH (setH h 150 44 0) 150 45 0) 150 46 0) 150 47 0) 150 48 0) 150 49 0) 150 50 0) 150 51 0) 150 52 0) 150 53 0) 150 54 0) 150 55 0) 150 56 0) 150 57 0) hh)

set_option maxRecDepth 20000 in
set_option maxHeartbeats 4000000 in
theorem ct_X12_clears {G : Gx} (h : Hp)   {P : Hp → Prop} (hh : OK (X12_clears h) P) : CT G yX12_clears M_X12_clears 1 0 0 FN h [aR 150] (fun r F' h' => F' = FN ∧ r = none ∧ P h') :=
  CT.of (by decide +kernel) rfl (Nat.le_of_ble_eq_true rfl) k_X12_clears fun k0 _ _ hM => c_X12_clears hM h (fun z hz => ⟨rfl, rfl, hz⟩) hh

theorem mi_X12_valueOf : MIv yX12_valueOf M_X12_valueOf 1 := ⟨⟨(mem_GW 2081 (by decide +kernel) rfl), (mem_GW 135 (by decide +kernel) rfl), by decide +kernel, by decide +kernel, by decide +kernel, by decide⟩, (mem_GW 2080 (by decide +kernel) rfl), (mem_GW 87 (by decide +kernel) rfl)⟩
set_option maxRecDepth 20000 in
set_option maxHeartbeats 4000000 in
theorem c_X12_valueOf {k0 : K0} {G : Gx} {Qp : Option AV → Fx → Hp → Prop} (hM : MB (KM k0 0 0 Qp) G M_X12_valueOf 1) (v1 : Int) (h : Hp)   {P : Int → Prop} (hq : ∀ z : Int, P z → Qp (some (aI z)) FN h) (hh : OK (X12_valueOf v1 h) P) : ATk (KM k0 0 0 Qp) FN 0 0 M_X12_valueOf 0 [some (aR 150), some (aI v1)] [] h := by
  unfold X12_valueOf at hh
  refine A_blk hM.1 1 (lv1 := [some (aR 150), some (aI v1)]) (s1 := [aI v1]) (h1 := h) rfl ?_
  refine A_tsw hM.1 rfl [(98, 2), (99, 5), (105, 8), (107, 11), (108, 14), (109, 17), (110, 20), (112, 23), (115, 26), (116, 29), (119, 32), (120, 35), (121, 38)] 41 (by decide +kernel) ?_
  refine ⟨fun hc => ?_, fun hc => ?_⟩
  · replace hh := OK_t hh hc
    refine A_blk hM.1 2 (lv1 := [some (aR 150), some (aI v1)]) (s1 := [aI (h 150 44)]) (h1 := h) rfl ?_
    exact A_reti hM.1 rfl rfl rfl (hq (h 150 44) hh)
  replace hh := OK_f hh hc
  refine ⟨fun hc => ?_, fun hc => ?_⟩
  · replace hh := OK_t hh hc
    refine A_blk hM.1 2 (lv1 := [some (aR 150), some (aI v1)]) (s1 := [aI (h 150 45)]) (h1 := h) rfl ?_
    exact A_reti hM.1 rfl rfl rfl (hq (h 150 45) hh)
  replace hh := OK_f hh hc
  refine ⟨fun hc => ?_, fun hc => ?_⟩
  · replace hh := OK_t hh hc
    refine A_blk hM.1 2 (lv1 := [some (aR 150), some (aI v1)]) (s1 := [aI (h 150 46)]) (h1 := h) rfl ?_
    exact A_reti hM.1 rfl rfl rfl (hq (h 150 46) hh)
  replace hh := OK_f hh hc
  refine ⟨fun hc => ?_, fun hc => ?_⟩
  · replace hh := OK_t hh hc
    refine A_blk hM.1 2 (lv1 := [some (aR 150), some (aI v1)]) (s1 := [aI (h 150 47)]) (h1 := h) rfl ?_
    exact A_reti hM.1 rfl rfl rfl (hq (h 150 47) hh)
  replace hh := OK_f hh hc
  refine ⟨fun hc => ?_, fun hc => ?_⟩
  · replace hh := OK_t hh hc
    refine A_blk hM.1 2 (lv1 := [some (aR 150), some (aI v1)]) (s1 := [aI (h 150 48)]) (h1 := h) rfl ?_
    exact A_reti hM.1 rfl rfl rfl (hq (h 150 48) hh)
  replace hh := OK_f hh hc
  refine ⟨fun hc => ?_, fun hc => ?_⟩
  · replace hh := OK_t hh hc
    refine A_blk hM.1 2 (lv1 := [some (aR 150), some (aI v1)]) (s1 := [aI (h 150 49)]) (h1 := h) rfl ?_
    exact A_reti hM.1 rfl rfl rfl (hq (h 150 49) hh)
  replace hh := OK_f hh hc
  refine ⟨fun hc => ?_, fun hc => ?_⟩
  · replace hh := OK_t hh hc
    refine A_blk hM.1 2 (lv1 := [some (aR 150), some (aI v1)]) (s1 := [aI (h 150 50)]) (h1 := h) rfl ?_
    exact A_reti hM.1 rfl rfl rfl (hq (h 150 50) hh)
  replace hh := OK_f hh hc
  refine ⟨fun hc => ?_, fun hc => ?_⟩
  · replace hh := OK_t hh hc
    refine A_blk hM.1 2 (lv1 := [some (aR 150), some (aI v1)]) (s1 := [aI (h 150 51)]) (h1 := h) rfl ?_
    exact A_reti hM.1 rfl rfl rfl (hq (h 150 51) hh)
  replace hh := OK_f hh hc
  refine ⟨fun hc => ?_, fun hc => ?_⟩
  · replace hh := OK_t hh hc
    refine A_blk hM.1 2 (lv1 := [some (aR 150), some (aI v1)]) (s1 := [aI (h 150 52)]) (h1 := h) rfl ?_
    exact A_reti hM.1 rfl rfl rfl (hq (h 150 52) hh)
  replace hh := OK_f hh hc
  refine ⟨fun hc => ?_, fun hc => ?_⟩
  · replace hh := OK_t hh hc
    refine A_blk hM.1 2 (lv1 := [some (aR 150), some (aI v1)]) (s1 := [aI (h 150 53)]) (h1 := h) rfl ?_
    exact A_reti hM.1 rfl rfl rfl (hq (h 150 53) hh)
  replace hh := OK_f hh hc
  refine ⟨fun hc => ?_, fun hc => ?_⟩
  · replace hh := OK_t hh hc
    refine A_blk hM.1 2 (lv1 := [some (aR 150), some (aI v1)]) (s1 := [aI (h 150 54)]) (h1 := h) rfl ?_
    exact A_reti hM.1 rfl rfl rfl (hq (h 150 54) hh)
  replace hh := OK_f hh hc
  refine ⟨fun hc => ?_, fun hc => ?_⟩
  · replace hh := OK_t hh hc
    refine A_blk hM.1 2 (lv1 := [some (aR 150), some (aI v1)]) (s1 := [aI (h 150 55)]) (h1 := h) rfl ?_
    exact A_reti hM.1 rfl rfl rfl (hq (h 150 55) hh)
  replace hh := OK_f hh hc
  refine ⟨fun hc => ?_, fun hc => ?_⟩
  · replace hh := OK_t hh hc
    refine A_blk hM.1 2 (lv1 := [some (aR 150), some (aI v1)]) (s1 := [aI (h 150 56)]) (h1 := h) rfl ?_
    exact A_reti hM.1 rfl rfl rfl (hq (h 150 56) hh)
  replace hh := OK_f hh hc
  refine A_blk hM.1 2 (lv1 := [some (aR 150), some (aI v1)]) (s1 := [aI (h 150 57)]) (h1 := h) rfl ?_
  exact A_reti hM.1 rfl rfl rfl (hq (h 150 57) hh)

set_option maxRecDepth 20000 in
set_option maxHeartbeats 4000000 in
theorem ct_X12_valueOf {G : Gx} (v1 : Int) (h : Hp)   {P : Int → Prop} (hh : OK (X12_valueOf v1 h) P) : CT G yX12_valueOf M_X12_valueOf 1 0 0 FN h [aR 150, aI v1] (fun r F' h' => F' = FN ∧ ∃ z, r = some (aI z) ∧ h' = h ∧ P z) :=
  CT.of (by decide +kernel) rfl (Nat.le_of_ble_eq_true rfl) k_X12_valueOf fun k0 _ _ hM => c_X12_valueOf hM v1 h (fun z hz => ⟨rfl, z, rfl, rfl, hz⟩) hh

theorem mi_X12_worked : MIs yX12_worked M_X12_worked 3 := ⟨(mem_GW 2077 (by decide +kernel) rfl), (mem_GW 135 (by decide +kernel) rfl), by decide +kernel, by decide +kernel, by decide +kernel, by decide⟩
theorem ms_X12_worked : .static yX12_worked ∈ GW := (mem_GW 2076 (by decide +kernel) rfl)
set_option maxRecDepth 20000 in
set_option maxHeartbeats 4000000 in
theorem c_X12_worked {k0 : K0} {G : Gx} {Qp : Option AV → Fx → Hp → Prop} (hM : MB (KM k0 0 0 Qp) G M_X12_worked 1) (v0 : Int) (v1 : Int) (v2 : Int) (h : Hp)  {P : Int → Prop} (hq : ∀ z : Int, P z → Qp (some (aI z)) FN h) (hh : OK (X12_worked v0 v1 v2) P) : ATk (KM k0 0 0 Qp) FN 0 0 M_X12_worked 0 [some (aI v0), some (aI v1), some (aI v2)] [] h := by
  unfold X12_worked at hh
  refine A_blk hM.1 1 (lv1 := [some (aI v0), some (aI v1), some (aI v2)]) (s1 := [aI v0]) (h1 := h) rfl ?_
  refine A_lsw hM.1 rfl [(37, 22), (42, 10), (43, 2), (45, 6), (47, 14), (60, 30), (62, 37)] 44 (by decide +kernel) ?_
  refine ⟨fun hc => ?_, fun hc => ?_⟩
  · replace hh := OK_t hh hc
    refine A_blk hM.1 1 (lv1 := [some (aI v0), some (aI v1), some (aI v2)]) (s1 := [aI v2]) (h1 := h) rfl ?_
    refine A_ifc hM.1 rfl rfl (fun hc => ?_) (fun hc => ?_)
    · replace hh := OK_t hh hc
      refine A_blk hM.1 2 (lv1 := [some (aI v0), some (aI v1), some (aI v2)]) (s1 := [aI v2, aI v1]) (h1 := h) rfl ?_
      obtain ⟨g1, hh⟩ := OK_g hh
      refine A_irem hM.1 rfl rfl g1 ?_
      exact A_reti hM.1 rfl rfl rfl (hq (rem32 v1 v2) hh)
    · replace hh := OK_f hh hc
      refine A_blk hM.1 1 (lv1 := [some (aI v0), some (aI v1), some (aI v2)]) (s1 := [aI 0]) (h1 := h) rfl ?_
      refine A_go hM.1 rfl rfl ?_
      exact A_reti hM.1 rfl rfl rfl (hq 0 hh)
  replace hh := OK_f hh hc
  refine ⟨fun hc => ?_, fun hc => ?_⟩
  · replace hh := OK_t hh hc
    refine A_blk hM.1 3 (lv1 := [some (aI v0), some (aI v1), some (aI v2)]) (s1 := [aI (v1 * v2)]) (h1 := h) rfl ?_
    refine A_nrm ?_
    exact A_reti hM.1 rfl rfl rfl (hq (w32 (v1 * v2)) hh)
  replace hh := OK_f hh hc
  refine ⟨fun hc => ?_, fun hc => ?_⟩
  · replace hh := OK_t hh hc
    refine A_blk hM.1 3 (lv1 := [some (aI v0), some (aI v1), some (aI v2)]) (s1 := [aI (v1 + v2)]) (h1 := h) rfl ?_
    refine A_nrm ?_
    exact A_reti hM.1 rfl rfl rfl (hq (w32 (v1 + v2)) hh)
  replace hh := OK_f hh hc
  refine ⟨fun hc => ?_, fun hc => ?_⟩
  · replace hh := OK_t hh hc
    refine A_blk hM.1 3 (lv1 := [some (aI v0), some (aI v1), some (aI v2)]) (s1 := [aI (v1 - v2)]) (h1 := h) rfl ?_
    refine A_nrm ?_
    exact A_reti hM.1 rfl rfl rfl (hq (w32 (v1 - v2)) hh)
  replace hh := OK_f hh hc
  refine ⟨fun hc => ?_, fun hc => ?_⟩
  · replace hh := OK_t hh hc
    refine A_blk hM.1 1 (lv1 := [some (aI v0), some (aI v1), some (aI v2)]) (s1 := [aI v2]) (h1 := h) rfl ?_
    refine A_ifc hM.1 rfl rfl (fun hc => ?_) (fun hc => ?_)
    · replace hh := OK_t hh hc
      refine A_blk hM.1 2 (lv1 := [some (aI v0), some (aI v1), some (aI v2)]) (s1 := [aI v2, aI v1]) (h1 := h) rfl ?_
      obtain ⟨g2, hh⟩ := OK_g hh
      refine A_idiv hM.1 rfl rfl g2 ?_
      exact A_reti hM.1 rfl rfl rfl (hq (div32 v1 v2) hh)
    · replace hh := OK_f hh hc
      refine A_blk hM.1 1 (lv1 := [some (aI v0), some (aI v1), some (aI v2)]) (s1 := [aI 0]) (h1 := h) rfl ?_
      refine A_go hM.1 rfl rfl ?_
      exact A_reti hM.1 rfl rfl rfl (hq 0 hh)
  replace hh := OK_f hh hc
  refine ⟨fun hc => ?_, fun hc => ?_⟩
  · replace hh := OK_t hh hc
    refine A_blk hM.1 2 (lv1 := [some (aI v0), some (aI v1), some (aI v2)]) (s1 := [aI v2, aI v1]) (h1 := h) rfl ?_
    refine A_icmp hM.1 rfl rfl (fun hc => ?_) (fun hc => ?_)
    · replace hh := OK_t hh hc
      refine A_blk hM.1 1 (lv1 := [some (aI v0), some (aI v1), some (aI v2)]) (s1 := [aI 0]) (h1 := h) rfl ?_
      exact A_reti hM.1 rfl rfl rfl (hq 0 hh)
    · replace hh := OK_f hh hc
      refine A_blk hM.1 1 (lv1 := [some (aI v0), some (aI v1), some (aI v2)]) (s1 := [aI 1]) (h1 := h) rfl ?_
      refine A_go hM.1 rfl rfl ?_
      exact A_reti hM.1 rfl rfl rfl (hq 1 hh)
  replace hh := OK_f hh hc
  refine ⟨fun hc => ?_, fun hc => ?_⟩
  · replace hh := OK_t hh hc
    refine A_blk hM.1 2 (lv1 := [some (aI v0), some (aI v1), some (aI v2)]) (s1 := [aI v2, aI v1]) (h1 := h) rfl ?_
    refine A_icmp hM.1 rfl rfl (fun hc => ?_) (fun hc => ?_)
    · replace hh := OK_t hh hc
      refine A_blk hM.1 1 (lv1 := [some (aI v0), some (aI v1), some (aI v2)]) (s1 := [aI 0]) (h1 := h) rfl ?_
      exact A_reti hM.1 rfl rfl rfl (hq 0 hh)
    · replace hh := OK_f hh hc
      refine A_blk hM.1 1 (lv1 := [some (aI v0), some (aI v1), some (aI v2)]) (s1 := [aI 1]) (h1 := h) rfl ?_
      refine A_go hM.1 rfl rfl ?_
      exact A_reti hM.1 rfl rfl rfl (hq 1 hh)
  replace hh := OK_f hh hc
  refine A_blk hM.1 2 (lv1 := [some (aI v0), some (aI v1), some (aI v2)]) (s1 := [aI v2, aI v1]) (h1 := h) rfl ?_
  refine A_icmp hM.1 rfl rfl (fun hc => ?_) (fun hc => ?_)
  · replace hh := OK_t hh hc
    refine A_blk hM.1 1 (lv1 := [some (aI v0), some (aI v1), some (aI v2)]) (s1 := [aI 0]) (h1 := h) rfl ?_
    exact A_reti hM.1 rfl rfl rfl (hq 0 hh)
  · replace hh := OK_f hh hc
    refine A_blk hM.1 1 (lv1 := [some (aI v0), some (aI v1), some (aI v2)]) (s1 := [aI 1]) (h1 := h) rfl ?_
    refine A_go hM.1 rfl rfl ?_
    exact A_reti hM.1 rfl rfl rfl (hq 1 hh)

set_option maxRecDepth 20000 in
set_option maxHeartbeats 4000000 in
theorem ct_X12_worked {G : Gx} (v0 : Int) (v1 : Int) (v2 : Int) (h : Hp)  {P : Int → Prop} (hh : OK (X12_worked v0 v1 v2) P) : CT G yX12_worked M_X12_worked 1 0 0 FN h [aI v0, aI v1, aI v2] (fun r F' h' => F' = FN ∧ ∃ z, r = some (aI z) ∧ h' = h ∧ P z) :=
  CT.of (by decide +kernel) rfl (Nat.le_of_ble_eq_true rfl) k_X12_worked fun k0 _ _ hM => c_X12_worked hM v0 v1 v2 h (fun z hz => ⟨rfl, z, rfl, rfl, hz⟩) hh

theorem mi_X12_does : MIv yX12_does M_X12_does 2 := ⟨⟨(mem_GW 2074 (by decide +kernel) rfl), (mem_GW 135 (by decide +kernel) rfl), by decide +kernel, by decide +kernel, by decide +kernel, by decide⟩, (mem_GW 2073 (by decide +kernel) rfl), (mem_GW 86 (by decide +kernel) rfl)⟩
set_option maxRecDepth 20000 in
set_option maxHeartbeats 4000000 in
theorem c_X12_does_j25 {k0 : K0} {G : Gx} {Qp : Option AV → Fx → Hp → Prop} (hM : MB (KM k0 0 0 Qp) G M_X12_does 2) (v2 : Int) (v3 : Int) (s0 : Int) (s1 : Int) (h : Hp)   {P : Hp → Prop} (hq : ∀ z : Hp, P z → Qp none FN z) (hh : OK (X12_does_j25 v2 v3 s0 s1 h) P) : ATk (KM k0 0 0 Qp) FN 0 0 M_X12_does 25 [some (aR 150), none, some (aI v2), some (aI v3)] [aI s1, aI s0] h := by
  unfold X12_does_j25 at hh
  refine A_icmp hM.1 rfl rfl (fun hc => ?_) (fun hc => ?_)
  · replace hh := OK_t hh hc
    refine A_blk hM.1 6 (lv1 := [some (aR 150), none, some (aI v2), some (aI v3)]) (s1 := [aI v3, aR 180, aI v2, aR 180]) (h1 := h) rfl ?_
    obtain ⟨g3, hh⟩ := OK_g hh
    refine A_ald hM.1 rfl (Or.inl ⟨rfl, rfl⟩) rfl (by decide) rfl g3 ?_
    obtain ⟨g4, hh⟩ := OK_g hh
    refine A_ast hM.1 rfl (Or.inl ⟨rfl, rfl, rfl⟩) rfl rfl rfl g4 ?_
    refine A_blk hM.1 6 (lv1 := [some (aR 150), none, some (aI v2), some (aI v3)]) (s1 := [aI v3, aR 181, aI v2, aR 181]) (h1 := setH h 180 ((w32 v2).toNat) (h 180 ((w32 v3).toNat))) rfl ?_
    obtain ⟨g5, hh⟩ := OK_g hh
    refine A_ald hM.1 rfl (Or.inr ⟨rfl, (Or.inr rfl)⟩) rfl (by decide) rfl g5 ?_
    obtain ⟨g6, hh⟩ := OK_g hh
    refine A_ast hM.1 rfl (Or.inr (Or.inr ⟨rfl, rfl, rfl⟩)) rfl rfl rfl g6 ?_
    exact A_retv hM.1 rfl rfl rfl (hq (setH (setH h 180 ((w32 v2).toNat) (h 180 ((w32 v3).toNat))) 181 ((w32 v2).toNat) (z1 (h 181 ((w32 v3).toNat)))) hh)
  · replace hh := OK_f hh hc
    exact A_retv hM.1 rfl rfl rfl (hq h hh)

set_option maxRecDepth 20000 in
set_option maxHeartbeats 4000000 in
theorem c_X12_does_j10 {k0 : K0} {G : Gx} {Qp : Option AV → Fx → Hp → Prop} (hM : MB (KM k0 0 0 Qp) G M_X12_does 2) (v1 : Int) (v2 : Int) (v3 : Int) (h : Hp)   {P : Hp → Prop} (hq : ∀ z : Hp, P z → Qp none FN z) (hh : OK (X12_does_j10 v1 v2 v3 h) P) : ATk (KM k0 0 0 Qp) FN 0 0 M_X12_does 10 [some (aR 150), some (aI v1), some (aI v2), some (aI v3)] [] h := by
  unfold X12_does_j10 at hh
  refine A_blk hM.1 3 (lv1 := [some (aR 150), some (aI v1), some (aI v2), some (aI v3)]) (s1 := [aI v2, aR 181]) (h1 := h) rfl ?_
  obtain ⟨g1, hh⟩ := OK_g hh
  refine A_ald hM.1 rfl (Or.inr ⟨rfl, (Or.inr rfl)⟩) rfl (by decide) rfl g1 ?_
  refine A_ifc hM.1 rfl rfl (fun hc => ?_) (fun hc => ?_)
  · replace hh := OK_t hh hc
    exact A_retv hM.1 rfl rfl rfl (hq h hh)
  · replace hh := OK_f hh hc
    refine A_blk hM.1 3 (lv1 := [some (aR 150), some (aI v1), some (aI v2), some (aI v3)]) (s1 := [aI v2, aR 180]) (h1 := h) rfl ?_
    obtain ⟨g2, hh⟩ := OK_g hh
    refine A_ald hM.1 rfl (Or.inl ⟨rfl, rfl⟩) rfl (by decide) rfl g2 ?_
    refine A_blk hM.1 2 (lv1 := [some (aR 150), some (aI v1), some (aI v2), some (aI v3)]) (s1 := [aI 38, aI v1, aI (h 180 ((w32 v2).toNat))]) (h1 := h) rfl ?_
    refine A_icmp hM.1 rfl rfl (fun hc => ?_) (fun hc => ?_)
    · replace hh := OK_t hh hc
      refine A_blk hM.1 1 (lv1 := [some (aR 150), some (aI v1), some (aI v2), some (aI v3)]) (s1 := [aI 0, aI (h 180 ((w32 v2).toNat))]) (h1 := h) rfl ?_
      refine A_mask [true, false, true, true] (lv1 := [some (aR 150), none, some (aI v2), some (aI v3)]) rfl ?_
      exact c_X12_does_j25 hM v2 v3 (h 180 ((w32 v2).toNat)) 0 h hq hh
    · replace hh := OK_f hh hc
      refine A_blk hM.1 1 (lv1 := [some (aR 150), some (aI v1), some (aI v2), some (aI v3)]) (s1 := [aI 1, aI (h 180 ((w32 v2).toNat))]) (h1 := h) rfl ?_
      refine A_go hM.1 rfl rfl ?_
      refine A_mask [true, false, true, true] (lv1 := [some (aR 150), none, some (aI v2), some (aI v3)]) rfl ?_
      exact c_X12_does_j25 hM v2 v3 (h 180 ((w32 v2).toNat)) 1 h hq hh

set_option maxRecDepth 20000 in
set_option maxHeartbeats 4000000 in
theorem c_X12_does_j71 {k0 : K0} {G : Gx} {Qp : Option AV → Fx → Hp → Prop} (hM : MB (KM k0 0 0 Qp) G M_X12_does 2) (v1 : Int) (v2 : Int) (v3 : Int) (s1 : Int) (s2 : Int) (h : Hp)   {P : Hp → Prop} (hq : ∀ z : Hp, P z → Qp none FN z) (hh : OK (X12_does_j71 v1 v2 v3 s1 s2 h) P) : ATk (KM k0 0 0 Qp) FN 0 0 M_X12_does 71 [some (aR 150), some (aI v1), some (aI v2), some (aI v3)] [aI s2, aI s1, aR 181] h := by
  unfold X12_does_j71 at hh
  obtain ⟨g8, hh⟩ := OK_g hh
  refine A_ast hM.1 rfl (Or.inr (Or.inr ⟨rfl, rfl, rfl⟩)) rfl rfl rfl g8 ?_
  refine A_blk hM.1 7 (lv1 := [some (aR 150), some (aI v1), some (aI v2), some (aI v3)]) (s1 := [aI v2, aR 180, aI v1, aI v2, aR 180]) (h1 := setH h 181 ((w32 s1).toNat) (z1 s2)) rfl ?_
  obtain ⟨g9, hh⟩ := OK_g hh
  refine A_ald hM.1 rfl (Or.inl ⟨rfl, rfl⟩) rfl (by decide) rfl g9 ?_
  refine A_blk hM.1 3 (lv1 := [some (aR 150), some (aI v1), some (aI v2), some (aI v3)]) (s1 := [aI v3, aR 180, aI (h 180 ((w32 v2).toNat)), aI v1, aI v2, aR 180]) (h1 := setH h 181 ((w32 s1).toNat) (z1 s2)) rfl ?_
  obtain ⟨g10, hh⟩ := OK_g hh
  refine A_ald hM.1 rfl (Or.inl ⟨rfl, rfl⟩) rfl (by decide) rfl g10 ?_
  refine A_callS hM rfl rfl (mem_GW 2075 (by decide +kernel) rfl) mi_X12_worked ms_X12_worked (As := [aI v1, aI (h 180 ((w32 v2).toNat)), aI (h 180 ((w32 v3).toNat))]) (rest := [aI v2, aR 180]) (ct_X12_worked v1 (h 180 ((w32 v2).toNat)) (h 180 ((w32 v3).toNat)) (setH h 181 ((w32 s1).toNat) (z1 s2)) (OK_bind hh)) (by decide) ⟨Nat.zero_le _, Nat.zero_le _⟩ rfl rfl (Nat.le_of_ble_eq_true rfl) (fun r F' h' hq1 => ?_)
  obtain ⟨rfl, r11, rfl, e9, hh⟩ := hq1
  subst h'
  obtain ⟨g12, hh⟩ := OK_g hh
  refine A_ast hM.1 rfl (Or.inl ⟨rfl, rfl, rfl⟩) rfl rfl rfl g12 ?_
  exact A_retv hM.1 rfl rfl rfl (hq (setH (setH h 181 ((w32 s1).toNat) (z1 s2)) 180 ((w32 v2).toNat) r11) hh)

set_option maxRecDepth 20000 in
set_option maxHeartbeats 4000000 in
theorem c_X12_does_j68 {k0 : K0} {G : Gx} {Qp : Option AV → Fx → Hp → Prop} (hM : MB (KM k0 0 0 Qp) G M_X12_does 2) (v1 : Int) (v2 : Int) (v3 : Int) (s1 : Int) (h : Hp)   {P : Hp → Prop} (hq : ∀ z : Hp, P z → Qp none FN z) (hh : OK (X12_does_j68 v1 v2 v3 s1 h) P) : ATk (KM k0 0 0 Qp) FN 0 0 M_X12_does 68 [some (aR 150), some (aI v1), some (aI v2), some (aI v3)] [aI s1, aR 181] h := by
  unfold X12_does_j68 at hh
  refine A_blk hM.1 1 (lv1 := [some (aR 150), some (aI v1), some (aI v2), some (aI v3)]) (s1 := [aI 1, aI s1, aR 181]) (h1 := h) rfl ?_
  refine A_go hM.1 rfl rfl ?_
  exact c_X12_does_j71 hM v1 v2 v3 s1 1 h hq hh

set_option maxRecDepth 20000 in
set_option maxHeartbeats 4000000 in
theorem c_X12_does_j70 {k0 : K0} {G : Gx} {Qp : Option AV → Fx → Hp → Prop} (hM : MB (KM k0 0 0 Qp) G M_X12_does 2) (v1 : Int) (v2 : Int) (v3 : Int) (s1 : Int) (h : Hp)   {P : Hp → Prop} (hq : ∀ z : Hp, P z → Qp none FN z) (hh : OK (X12_does_j70 v1 v2 v3 s1 h) P) : ATk (KM k0 0 0 Qp) FN 0 0 M_X12_does 70 [some (aR 150), some (aI v1), some (aI v2), some (aI v3)] [aI s1, aR 181] h := by
  unfold X12_does_j70 at hh
  refine A_blk hM.1 1 (lv1 := [some (aR 150), some (aI v1), some (aI v2), some (aI v3)]) (s1 := [aI 0, aI s1, aR 181]) (h1 := h) rfl ?_
  exact c_X12_does_j71 hM v1 v2 v3 s1 0 h hq hh

set_option maxRecDepth 20000 in
set_option maxHeartbeats 4000000 in
theorem c_X12_does_j63 {k0 : K0} {G : Gx} {Qp : Option AV → Fx → Hp → Prop} (hM : MB (KM k0 0 0 Qp) G M_X12_does 2) (v1 : Int) (v2 : Int) (v3 : Int) (s1 : Int) (h : Hp)   {P : Hp → Prop} (hq : ∀ z : Hp, P z → Qp none FN z) (hh : OK (X12_does_j63 v1 v2 v3 s1 h) P) : ATk (KM k0 0 0 Qp) FN 0 0 M_X12_does 63 [some (aR 150), some (aI v1), some (aI v2), some (aI v3)] [aI s1, aR 181] h := by
  unfold X12_does_j63 at hh
  refine A_blk hM.1 3 (lv1 := [some (aR 150), some (aI v1), some (aI v2), some (aI v3)]) (s1 := [aI v3, aR 180, aI s1, aR 181]) (h1 := h) rfl ?_
  obtain ⟨g14, hh⟩ := OK_g hh
  refine A_ald hM.1 rfl (Or.inl ⟨rfl, rfl⟩) rfl (by decide) rfl g14 ?_
  refine A_ifc hM.1 rfl rfl (fun hc => ?_) (fun hc => ?_)
  · replace hh := OK_t hh hc
    exact c_X12_does_j70 hM v1 v2 v3 s1 h hq hh
  · replace hh := OK_f hh hc
    exact c_X12_does_j68 hM v1 v2 v3 s1 h hq hh

set_option maxRecDepth 20000 in
set_option maxHeartbeats 4000000 in
theorem c_X12_does {k0 : K0} {G : Gx} {Qp : Option AV → Fx → Hp → Prop} (hM : MB (KM k0 0 0 Qp) G M_X12_does 2) (v1 : Int) (v2 : Int) (h : Hp)   {P : Hp → Prop} (hq : ∀ z : Hp, P z → Qp none FN z) (hh : OK (X12_does v1 v2 h) P) : ATk (KM k0 0 0 Qp) FN 0 0 M_X12_does 0 [some (aR 150), some (aI v1), some (aI v2), none] [] h := by
  unfold X12_does at hh
  refine A_blk hM.1 6 (lv1 := [some (aR 150), some (aI v1), some (aI v2), some (aI (v2 + 1))]) (s1 := [aI 38, aI v1]) (h1 := h) rfl ?_
  refine A_icmp hM.1 rfl rfl (fun hc => ?_) (fun hc => ?_)
  · replace hh := OK_t hh hc
    exact c_X12_does_j10 hM v1 v2 (v2 + 1) h hq hh
  · replace hh := OK_f hh hc
    refine A_blk hM.1 2 (lv1 := [some (aR 150), some (aI v1), some (aI v2), some (aI (v2 + 1))]) (s1 := [aI 124, aI v1]) (h1 := h) rfl ?_
    refine A_icmp hM.1 rfl rfl (fun hc => ?_) (fun hc => ?_)
    · replace hh := OK_t hh hc
      refine A_blk hM.1 6 (lv1 := [some (aR 150), some (aI v1), some (aI v2), some (aI (v2 + 1))]) (s1 := [aI v2, aR 181, aI v2, aR 181]) (h1 := h) rfl ?_
      obtain ⟨g7, hh⟩ := OK_g hh
      refine A_ald hM.1 rfl (Or.inr ⟨rfl, (Or.inr rfl)⟩) rfl (by decide) rfl g7 ?_
      refine A_ifc hM.1 rfl rfl (fun hc => ?_) (fun hc => ?_)
      · replace hh := OK_t hh hc
        exact c_X12_does_j68 hM v1 v2 (v2 + 1) v2 h hq hh
      · replace hh := OK_f hh hc
        refine A_blk hM.1 3 (lv1 := [some (aR 150), some (aI v1), some (aI v2), some (aI (v2 + 1))]) (s1 := [aI (v2 + 1), aR 181, aI v2, aR 181]) (h1 := h) rfl ?_
        obtain ⟨g13, hh⟩ := OK_g hh
        refine A_ald hM.1 rfl (Or.inr ⟨rfl, (Or.inr rfl)⟩) rfl (by decide) rfl g13 ?_
        refine A_ifc hM.1 rfl rfl (fun hc => ?_) (fun hc => ?_)
        · replace hh := OK_t hh hc
          exact c_X12_does_j68 hM v1 v2 (v2 + 1) v2 h hq hh
        · replace hh := OK_f hh hc
          refine A_blk hM.1 2 (lv1 := [some (aR 150), some (aI v1), some (aI v2), some (aI (v2 + 1))]) (s1 := [aI 47, aI v1, aI v2, aR 181]) (h1 := h) rfl ?_
          refine A_icmp hM.1 rfl rfl (fun hc => ?_) (fun hc => ?_)
          · replace hh := OK_t hh hc
            exact c_X12_does_j63 hM v1 v2 (v2 + 1) v2 h hq hh
          · replace hh := OK_f hh hc
            refine A_blk hM.1 2 (lv1 := [some (aR 150), some (aI v1), some (aI v2), some (aI (v2 + 1))]) (s1 := [aI 37, aI v1, aI v2, aR 181]) (h1 := h) rfl ?_
            refine A_icmp hM.1 rfl rfl (fun hc => ?_) (fun hc => ?_)
            · replace hh := OK_t hh hc
              exact c_X12_does_j70 hM v1 v2 (v2 + 1) v2 h hq hh
            · replace hh := OK_f hh hc
              exact c_X12_does_j63 hM v1 v2 (v2 + 1) v2 h hq hh
    · replace hh := OK_f hh hc
      exact c_X12_does_j10 hM v1 v2 (v2 + 1) h hq hh

set_option maxRecDepth 20000 in
set_option maxHeartbeats 4000000 in
theorem ct_X12_does {G : Gx} (v1 : Int) (v2 : Int) (h : Hp)   {P : Hp → Prop} (hh : OK (X12_does v1 v2 h) P) : CT G yX12_does M_X12_does 2 0 0 FN h [aR 150, aI v1, aI v2] (fun r F' h' => F' = FN ∧ r = none ∧ P h') :=
  CT.of (by decide +kernel) rfl (Nat.le_of_ble_eq_true rfl) k_X12_does fun k0 _ _ hM => c_X12_does hM v1 v2 h (fun z hz => ⟨rfl, rfl, hz⟩) hh

theorem mi_X12_reckons : MIv yX12_reckons M_X12_reckons 2 := ⟨⟨(mem_GW 2070 (by decide +kernel) rfl), (mem_GW 135 (by decide +kernel) rfl), by decide +kernel, by decide +kernel, by decide +kernel, by decide⟩, (mem_GW 2069 (by decide +kernel) rfl), (mem_GW 85 (by decide +kernel) rfl)⟩
set_option maxRecDepth 20000 in
set_option maxHeartbeats 4000000 in
theorem c_X12_reckons_j71 {k0 : K0} {G : Gx} {Qp : Option AV → Fx → Hp → Prop} (hM : MB (KM k0 0 0 Qp) G M_X12_reckons 3) (v2 : Int) (v3 : Int) (v4 : Int) (h : Hp)   {P : ((Int × Int × Hp) ⊕ (Hp)) → Prop} (hin : ∀ y : Int × Int × Hp, P (.inl y) → ATk (KM k0 0 0 Qp) FN 0 0 M_X12_reckons 4 [some (aR 150), none, some (aI v2), some (aI y.1), some (aI y.2.1)] [] y.2.2) (hout0 : ∀ y : Hp, P (.inr y) → ATk (KM k0 0 0 Qp) FN 0 0 M_X12_reckons 73 [none, none, none, none, none] [] y) (hh : OK (X12_reckons_j71 v2 v3 v4 h) P) : ATk (KM k0 0 0 Qp) FN 0 0 M_X12_reckons 71 [some (aR 150), none, some (aI v2), some (aI v3), some (aI v4)] [] h := by
  unfold X12_reckons_j71 at hh
  refine A_blk hM.1 1 (lv1 := [some (aR 150), none, some (aI v2), some (aI v3), some (aI (v4 + 1))]) (s1 := []) (h1 := h) rfl ?_
  refine A_go hM.1 rfl rfl ?_
  exact hin (v3, v4 + 1, h) hh

set_option maxRecDepth 20000 in
set_option maxHeartbeats 4000000 in
theorem c_X12_reckons_j69 {k0 : K0} {G : Gx} {Qp : Option AV → Fx → Hp → Prop} (hM : MB (KM k0 0 0 Qp) G M_X12_reckons 3) (v2 : Int) (v3 : Int) (v4 : Int) (s1 : Int) (s2 : Int) (h : Hp)   {P : ((Int × Int × Hp) ⊕ (Hp)) → Prop} (hin : ∀ y : Int × Int × Hp, P (.inl y) → ATk (KM k0 0 0 Qp) FN 0 0 M_X12_reckons 4 [some (aR 150), none, some (aI v2), some (aI y.1), some (aI y.2.1)] [] y.2.2) (hout0 : ∀ y : Hp, P (.inr y) → ATk (KM k0 0 0 Qp) FN 0 0 M_X12_reckons 73 [none, none, none, none, none] [] y) (hh : OK (X12_reckons_j69 v2 v3 v4 s1 s2 h) P) : ATk (KM k0 0 0 Qp) FN 0 0 M_X12_reckons 69 [some (aR 150), none, some (aI v2), some (aI v3), some (aI v4)] [aI s2, aI s1, aR 180] h := by
  unfold X12_reckons_j69 at hh
  obtain ⟨g7, hh⟩ := OK_g hh
  refine A_ast hM.1 rfl (Or.inl ⟨rfl, rfl, rfl⟩) rfl rfl rfl g7 ?_
  refine A_blk hM.1 1 (lv1 := [some (aR 150), none, some (aI v2), some (aI (v3 + 1)), some (aI v4)]) (s1 := []) (h1 := setH h 180 ((w32 s1).toNat) s2) rfl ?_
  exact c_X12_reckons_j71 hM v2 (v3 + 1) v4 (setH h 180 ((w32 s1).toNat) s2) hin hout0 hh

set_option maxRecDepth 20000 in
set_option maxHeartbeats 4000000 in
theorem c_X12_reckons_l4 {k0 : K0} {G : Gx} {Qp : Option AV → Fx → Hp → Prop} (hM : MB (KM k0 0 0 Qp) G M_X12_reckons 3) (v2 : Int) (x : Int × Int × Hp)   {P : ((Int × Int × Hp) ⊕ (Hp)) → Prop} (hin : ∀ y : Int × Int × Hp, P (.inl y) → ATk (KM k0 0 0 Qp) FN 0 0 M_X12_reckons 4 [some (aR 150), none, some (aI v2), some (aI y.1), some (aI y.2.1)] [] y.2.2) (hout0 : ∀ y : Hp, P (.inr y) → ATk (KM k0 0 0 Qp) FN 0 0 M_X12_reckons 73 [none, none, none, none, none] [] y) (hh : OK (X12_reckons_l4 v2 x) P) : ATk (KM k0 0 0 Qp) FN 0 0 M_X12_reckons 4 [some (aR 150), none, some (aI v2), some (aI x.1), some (aI x.2.1)] [] x.2.2 := by
  unfold X12_reckons_l4 at hh
  refine A_blk hM.1 2 (lv1 := [some (aR 150), none, some (aI v2), some (aI x.1), some (aI x.2.1)]) (s1 := [aI v2, aI x.2.1]) (h1 := x.2.2) rfl ?_
  refine A_icmp hM.1 rfl rfl (fun hc => ?_) (fun hc => ?_)
  · replace hh := OK_t hh hc
    refine A_mask [false, true, false, false, false] (lv1 := [none, none, none, none, none]) rfl ?_
    exact hout0 x.2.2 hh
  · replace hh := OK_f hh hc
    refine A_blk hM.1 3 (lv1 := [some (aR 150), none, some (aI v2), some (aI x.1), some (aI x.2.1)]) (s1 := [aI x.2.1, aR 171]) (h1 := x.2.2) rfl ?_
    obtain ⟨g1, hh⟩ := OK_g hh
    refine A_ald hM.1 rfl (Or.inl ⟨rfl, rfl⟩) rfl (by decide) rfl g1 ?_
    refine A_blk hM.1 1 (lv1 := [some (aR 150), none, some (aI v2), some (aI x.1), some (aI x.2.1)]) (s1 := [aI 2, aI (x.2.2 171 ((w32 x.2.1).toNat))]) (h1 := x.2.2) rfl ?_
    refine A_icmp hM.1 rfl rfl (fun hc => ?_) (fun hc => ?_)
    · replace hh := OK_t hh hc
      refine A_blk hM.1 3 (lv1 := [some (aR 150), none, some (aI v2), some (aI x.1), some (aI x.2.1)]) (s1 := [aI x.2.1, aR 171]) (h1 := x.2.2) rfl ?_
      obtain ⟨g2, hh⟩ := OK_g hh
      refine A_ald hM.1 rfl (Or.inl ⟨rfl, rfl⟩) rfl (by decide) rfl g2 ?_
      refine A_blk hM.1 1 (lv1 := [some (aR 150), none, some (aI v2), some (aI x.1), some (aI x.2.1)]) (s1 := [aI 2, aI (x.2.2 171 ((w32 x.2.1).toNat))]) (h1 := x.2.2) rfl ?_
      refine A_icmp hM.1 rfl rfl (fun hc => ?_) (fun hc => ?_)
      · replace hh := OK_t hh hc
        refine A_blk hM.1 4 (lv1 := [some (aR 150), none, some (aI v2), some (aI x.1), some (aI x.2.1)]) (s1 := [aI 0, aI x.1, aR 181]) (h1 := x.2.2) rfl ?_
        obtain ⟨g3, hh⟩ := OK_g hh
        refine A_ast hM.1 rfl (Or.inr (Or.inr ⟨rfl, rfl, rfl⟩)) rfl rfl rfl g3 ?_
        refine A_blk hM.1 6 (lv1 := [some (aR 150), none, some (aI v2), some (aI x.1), some (aI x.2.1)]) (s1 := [aI x.2.1, aR 171, aI x.1, aR 180]) (h1 := setH x.2.2 181 ((w32 x.1).toNat) (z1 0)) rfl ?_
        obtain ⟨g4, hh⟩ := OK_g hh
        refine A_ald hM.1 rfl (Or.inl ⟨rfl, rfl⟩) rfl (by decide) rfl g4 ?_
        refine A_ifc hM.1 rfl rfl (fun hc => ?_) (fun hc => ?_)
        · replace hh := OK_t hh hc
          refine A_blk hM.1 4 (lv1 := [some (aR 150), none, some (aI v2), some (aI x.1), some (aI x.2.1)]) (s1 := [aI x.2.1, aR 172, aR 150, aI x.1, aR 180]) (h1 := setH x.2.2 181 ((w32 x.1).toNat) (z1 0)) rfl ?_
          obtain ⟨g5, hh⟩ := OK_g hh
          refine A_ald hM.1 rfl (Or.inl ⟨rfl, rfl⟩) rfl (by decide) rfl g5 ?_
          refine A_callV hM rfl rfl (mem_GW 2078 (by decide +kernel) rfl) mi_X12_valueOf (As := [aI (x.2.2 172 ((w32 x.2.1).toNat))]) (rest := [aI x.1, aR 180]) (ct_X12_valueOf (x.2.2 172 ((w32 x.2.1).toNat)) (setH x.2.2 181 ((w32 x.1).toNat) (z1 0)) (OK_bind hh)) (by decide) ⟨Nat.zero_le _, Nat.zero_le _⟩ rfl rfl (Nat.le_of_ble_eq_true rfl) (by decide) rfl (by decide) rfl (fun r F' h' hq1 => ?_)
          obtain ⟨rfl, r6, rfl, e9, hh⟩ := hq1
          subst h'
          exact c_X12_reckons_j69 hM v2 x.1 x.2.1 x.1 r6 (setH x.2.2 181 ((w32 x.1).toNat) (z1 0)) hin hout0 hh
        · replace hh := OK_f hh hc
          refine A_blk hM.1 3 (lv1 := [some (aR 150), none, some (aI v2), some (aI x.1), some (aI x.2.1)]) (s1 := [aI x.2.1, aR 172, aI x.1, aR 180]) (h1 := setH x.2.2 181 ((w32 x.1).toNat) (z1 0)) rfl ?_
          obtain ⟨g8, hh⟩ := OK_g hh
          refine A_ald hM.1 rfl (Or.inl ⟨rfl, rfl⟩) rfl (by decide) rfl g8 ?_
          refine A_go hM.1 rfl rfl ?_
          exact c_X12_reckons_j69 hM v2 x.1 x.2.1 x.1 (x.2.2 172 ((w32 x.2.1).toNat)) (setH x.2.2 181 ((w32 x.1).toNat) (z1 0)) hin hout0 hh
      · replace hh := OK_f hh hc
        refine A_blk hM.1 11 (lv1 := [some (aR 150), none, some (aI v2), some (aI x.1), some (aI x.2.1)]) (s1 := [aI (x.1 - 1), aR 180, aI 1, aI (x.1 - 1), aR 180]) (h1 := x.2.2) rfl ?_
        obtain ⟨g9, hh⟩ := OK_g hh
        refine A_ald hM.1 rfl (Or.inl ⟨rfl, rfl⟩) rfl (by decide) rfl g9 ?_
        refine A_blk hM.1 1 (lv1 := [some (aR 150), none, some (aI v2), some (aI x.1), some (aI x.2.1)]) (s1 := [aI (1 - (x.2.2 180 ((w32 (x.1 - 1)).toNat))), aI (x.1 - 1), aR 180]) (h1 := x.2.2) rfl ?_
        obtain ⟨g10, hh⟩ := OK_g hh
        refine A_ast hM.1 rfl (Or.inl ⟨rfl, rfl, rfl⟩) rfl rfl rfl g10 ?_
        refine A_go hM.1 rfl rfl ?_
        exact c_X12_reckons_j71 hM v2 x.1 x.2.1 (setH x.2.2 180 ((w32 (x.1 - 1)).toNat) (1 - (x.2.2 180 ((w32 (x.1 - 1)).toNat)))) hin hout0 hh
    · replace hh := OK_f hh hc
      refine A_blk hM.1 5 (lv1 := [some (aR 150), none, some (aI v2), some (aI (x.1 + (-1))), some (aI x.2.1)]) (s1 := [aI x.2.1, aR 171, aR 150]) (h1 := x.2.2) rfl ?_
      obtain ⟨g11, hh⟩ := OK_g hh
      refine A_ald hM.1 rfl (Or.inl ⟨rfl, rfl⟩) rfl (by decide) rfl g11 ?_
      refine A_blk hM.1 3 (lv1 := [some (aR 150), none, some (aI v2), some (aI (x.1 + (-1))), some (aI x.2.1)]) (s1 := [aI ((x.1 + (-1)) - 1), aI (x.2.2 171 ((w32 x.2.1).toNat)), aR 150]) (h1 := x.2.2) rfl ?_
      refine A_callV hM rfl rfl (mem_GW 2071 (by decide +kernel) rfl) mi_X12_does (As := [aI (x.2.2 171 ((w32 x.2.1).toNat)), aI ((x.1 + (-1)) - 1)]) (rest := []) (ct_X12_does (x.2.2 171 ((w32 x.2.1).toNat)) ((x.1 + (-1)) - 1) x.2.2 (OK_bind hh)) (by decide) ⟨Nat.zero_le _, Nat.zero_le _⟩ rfl rfl (Nat.le_of_ble_eq_true rfl) (by decide) rfl (by decide) rfl (fun r F' h' hq1 => ?_)
      obtain ⟨rfl, rfl, hh⟩ := hq1
      obtain ⟨r12, rfl⟩ : ∃ z, z = h' := ⟨_, rfl⟩
      refine A_go hM.1 rfl rfl ?_
      exact c_X12_reckons_j71 hM v2 (x.1 + (-1)) x.2.1 r12 hin hout0 hh

set_option maxRecDepth 20000 in
set_option maxHeartbeats 4000000 in
theorem c_X12_reckons {k0 : K0} {G : Gx} {Qp : Option AV → Fx → Hp → Prop} (hM : MB (KM k0 0 0 Qp) G M_X12_reckons 3) (v1 : Int) (v2 : Int) (h : Hp)   {P : Hp → Prop} (hq : ∀ z : Hp, P z → Qp none FN z) (hh : OK (X12_reckons v1 v2 h) P) : ATk (KM k0 0 0 Qp) FN 0 0 M_X12_reckons 0 [some (aR 150), some (aI v1), some (aI v2), none, none] [] h := by
  unfold X12_reckons at hh
  refine A_blk hM.1 4 (lv1 := [some (aR 150), some (aI v1), some (aI v2), some (aI 0), some (aI v1)]) (s1 := []) (h1 := h) rfl ?_
  refine A_mask [true, false, true, true, true] (lv1 := [some (aR 150), none, some (aI v2), some (aI 0), some (aI v1)]) rfl ?_
  refine iter_ok (s := (0, v1, h)) (Gp := fun z => ATk (KM k0 0 0 Qp) FN 0 0 M_X12_reckons 4 [some (aR 150), none, some (aI v2), some (aI z.1), some (aI z.2.1)] [] z.2.2) (E := fun z => ATk (KM k0 0 0 Qp) FN 0 0 M_X12_reckons 73 [none, none, none, none, none] [] z) (fun z P1 g1 g2 g3 => c_X12_reckons_l4 hM v2 z g2 g3 g1) (OK_bind hh) (fun x13 hh => ?_)
  exact A_retv hM.1 rfl rfl rfl (hq x13 hh)

set_option maxRecDepth 20000 in
set_option maxHeartbeats 4000000 in
theorem ct_X12_reckons {G : Gx} (v1 : Int) (v2 : Int) (h : Hp)   {P : Hp → Prop} (hh : OK (X12_reckons v1 v2 h) P) : CT G yX12_reckons M_X12_reckons 3 0 0 FN h [aR 150, aI v1, aI v2] (fun r F' h' => F' = FN ∧ r = none ∧ P h') :=
  CT.of (by decide +kernel) rfl (Nat.le_of_ble_eq_true rfl) k_X12_reckons fun k0 _ _ hM => c_X12_reckons hM v1 v2 h (fun z hz => ⟨rfl, rfl, hz⟩) hh

