set_option linter.all false
theorem mi_X12_emit : MIv yX12_emit M_X12_emit 2 := ⟨⟨(mem_GW 1989 (by decide +kernel) rfl), (mem_GW 135 (by decide +kernel) rfl), by decide +kernel, by decide +kernel, by decide +kernel, by decide⟩, (mem_GW 1988 (by decide +kernel) rfl), (mem_GW 72 (by decide +kernel) rfl)⟩
set_option maxRecDepth 20000 in
set_option maxHeartbeats 4000000 in
theorem c_X12_emit {k0 : K0} {G : Gx} {Qp : Option AV → Fx → Hp → Prop} (hM : MB (KM k0 0 0 Qp) G M_X12_emit 2) (v1 : Int) (v2 : Int) (h : Hp)   {P : Hp → Prop} (hq : ∀ z : Hp, P z → Qp none FN z) (hh : OK (X12_emit v1 v2 h) P) : ATk (KM k0 0 0 Qp) FN 0 0 M_X12_emit 0 [some (aR 150), some (aI v1), some (aI v2)] [] h := by
  unfold X12_emit at hh
  refine A_blk hM.1 1 (lv1 := [some (aR 150), some (aI v1), some (aI v2)]) (s1 := [aR 150]) (h1 := h) rfl ?_
  refine A_callV hM rfl rfl (mem_GW 1941 (by decide +kernel) rfl) mi_X12_isGood (As := []) (rest := []) (ct_X12_isGood h (OK_bind hh)) (by decide) ⟨Nat.zero_le _, Nat.zero_le _⟩ rfl rfl (Nat.le_of_ble_eq_true rfl) (by decide) rfl (by decide) rfl (fun r F' h' hq1 => ?_)
  obtain ⟨rfl, r1, rfl, e9, hh⟩ := hq1
  subst h'
  refine A_ifc hM.1 rfl rfl (fun hc => ?_) (fun hc => ?_)
  · replace hh := OK_t hh hc
    refine A_blk hM.1 5 (lv1 := [some (aR 150), some (aI v1), some (aI v2)]) (s1 := [aI v1, aI (h 150 38), aR 177]) (h1 := h) rfl ?_
    obtain ⟨g2, hh⟩ := OK_g hh
    refine A_ast hM.1 rfl (Or.inl ⟨rfl, rfl, rfl⟩) rfl rfl rfl g2 ?_
    refine A_blk hM.1 5 (lv1 := [some (aR 150), some (aI v1), some (aI v2)]) (s1 := [aI v2, aI (h 150 38), aR 178]) (h1 := setH h 177 ((w32 (h 150 38)).toNat) v1) rfl ?_
    obtain ⟨g3, hh⟩ := OK_g hh
    refine A_ast hM.1 rfl (Or.inl ⟨rfl, rfl, rfl⟩) rfl rfl rfl g3 ?_
    refine A_blk hM.1 6 (lv1 := [some (aR 150), some (aI v1), some (aI v2)]) (s1 := []) (h1 := setH (setH (setH h 177 ((w32 (h 150 38)).toNat) v1) 178 ((w32 (h 150 38)).toNat) v2) 150 38 ((h 150 38) + 1)) rfl ?_
    exact A_retv hM.1 rfl rfl rfl (hq (setH (setH (setH h 177 ((w32 (h 150 38)).toNat) v1) 178 ((w32 (h 150 38)).toNat) v2) 150 38 ((h 150 38) + 1)) hh)
  · replace hh := OK_f hh hc
    exact A_retv hM.1 rfl rfl rfl (hq h hh)

set_option maxRecDepth 20000 in
set_option maxHeartbeats 4000000 in
theorem ct_X12_emit {G : Gx} (v1 : Int) (v2 : Int) (h : Hp)   {P : Hp → Prop} (hh : OK (X12_emit v1 v2 h) P) : CT G yX12_emit M_X12_emit 2 0 0 FN h [aR 150, aI v1, aI v2] (fun r F' h' => F' = FN ∧ r = none ∧ P h') :=
  CT.of (by decide +kernel) rfl (Nat.le_of_ble_eq_true rfl) k_X12_emit fun k0 _ _ hM => c_X12_emit hM v1 v2 h (fun z hz => ⟨rfl, rfl, hz⟩) hh

theorem mi_X12_top : MIv yX12_top M_X12_top 0 := ⟨⟨(mem_GW 2010 (by decide +kernel) rfl), (mem_GW 135 (by decide +kernel) rfl), by decide +kernel, by decide +kernel, by decide +kernel, by decide⟩, (mem_GW 2009 (by decide +kernel) rfl), (mem_GW 75 (by decide +kernel) rfl)⟩
set_option maxRecDepth 20000 in
set_option maxHeartbeats 4000000 in
theorem c_X12_top {k0 : K0} {G : Gx} {Qp : Option AV → Fx → Hp → Prop} (hM : MB (KM k0 0 0 Qp) G M_X12_top 1) (h : Hp)   {P : Int → Prop} (hq : ∀ z : Int, P z → Qp (some (aI z)) FN h) (hh : OK (X12_top h) P) : ATk (KM k0 0 0 Qp) FN 0 0 M_X12_top 0 [some (aR 150)] [] h := by
  unfold X12_top at hh
  refine A_blk hM.1 2 (lv1 := [some (aR 150)]) (s1 := [aI (h 150 40)]) (h1 := h) rfl ?_
  refine A_ifc hM.1 rfl rfl (fun hc => ?_) (fun hc => ?_)
  · replace hh := OK_t hh hc
    refine A_blk hM.1 1 (lv1 := [some (aR 150)]) (s1 := [aI 0]) (h1 := h) rfl ?_
    exact A_reti hM.1 rfl rfl rfl (hq 0 hh)
  · replace hh := OK_f hh hc
    refine A_blk hM.1 6 (lv1 := [some (aR 150)]) (s1 := [aI ((h 150 40) - 1), aR 179]) (h1 := h) rfl ?_
    obtain ⟨g1, hh⟩ := OK_g hh
    refine A_ald hM.1 rfl (Or.inl ⟨rfl, rfl⟩) rfl (by decide) rfl g1 ?_
    refine A_go hM.1 rfl rfl ?_
    exact A_reti hM.1 rfl rfl rfl (hq (h 179 ((w32 ((h 150 40) - 1)).toNat)) hh)

set_option maxRecDepth 20000 in
set_option maxHeartbeats 4000000 in
theorem ct_X12_top {G : Gx} (h : Hp)   {P : Int → Prop} (hh : OK (X12_top h) P) : CT G yX12_top M_X12_top 1 0 0 FN h [aR 150] (fun r F' h' => F' = FN ∧ ∃ z, r = some (aI z) ∧ h' = h ∧ P z) :=
  CT.of (by decide +kernel) rfl (Nat.le_of_ble_eq_true rfl) k_X12_top fun k0 _ _ hM => c_X12_top hM h (fun z hz => ⟨rfl, z, rfl, rfl, hz⟩) hh

theorem mi_X12_puts : MIv yX12_puts M_X12_puts 1 := ⟨⟨(mem_GW 1975 (by decide +kernel) rfl), (mem_GW 135 (by decide +kernel) rfl), by decide +kernel, by decide +kernel, by decide +kernel, by decide⟩, (mem_GW 1974 (by decide +kernel) rfl), (mem_GW 69 (by decide +kernel) rfl)⟩
set_option maxRecDepth 20000 in
set_option maxHeartbeats 4000000 in
theorem c_X12_puts {k0 : K0} {G : Gx} {Qp : Option AV → Fx → Hp → Prop} (hM : MB (KM k0 0 0 Qp) G M_X12_puts 1) (v1 : Int) (h : Hp)   {P : Hp → Prop} (hq : ∀ z : Hp, P z → Qp none FN z) (hh : OK (X12_puts v1 h) P) : ATk (KM k0 0 0 Qp) FN 0 0 M_X12_puts 0 [some (aR 150), some (aI v1)] [] h := by
  unfold X12_puts at hh
  refine A_blk hM.1 5 (lv1 := [some (aR 150), some (aI v1)]) (s1 := [aI v1, aI (h 150 40), aR 179]) (h1 := h) rfl ?_
  obtain ⟨g1, hh⟩ := OK_g hh
  refine A_ast hM.1 rfl (Or.inl ⟨rfl, rfl, rfl⟩) rfl rfl rfl g1 ?_
  refine A_blk hM.1 12 (lv1 := [some (aR 150), some (aI v1)]) (s1 := []) (h1 := setH (setH (setH h 179 ((w32 (h 150 40)).toNat) v1) 150 40 ((h 150 40) + 1)) 150 34 ((h 150 34) + 1)) rfl ?_
  exact A_retv hM.1 rfl rfl rfl (hq (setH (setH (setH h 179 ((w32 (h 150 40)).toNat) v1) 150 40 ((h 150 40) + 1)) 150 34 ((h 150 34) + 1)) hh)

set_option maxRecDepth 20000 in
set_option maxHeartbeats 4000000 in
theorem ct_X12_puts {G : Gx} (v1 : Int) (h : Hp)   {P : Hp → Prop} (hh : OK (X12_puts v1 h) P) : CT G yX12_puts M_X12_puts 1 0 0 FN h [aR 150, aI v1] (fun r F' h' => F' = FN ∧ r = none ∧ P h') :=
  CT.of (by decide +kernel) rfl (Nat.le_of_ble_eq_true rfl) k_X12_puts fun k0 _ _ hM => c_X12_puts hM v1 h (fun z hz => ⟨rfl, rfl, hz⟩) hh

theorem mi_X12_opens : MIv yX12_opens M_X12_opens 0 := ⟨⟨(mem_GW 1971 (by decide +kernel) rfl), (mem_GW 135 (by decide +kernel) rfl), by decide +kernel, by decide +kernel, by decide +kernel, by decide⟩, (mem_GW 1970 (by decide +kernel) rfl), (mem_GW 68 (by decide +kernel) rfl)⟩
set_option maxRecDepth 20000 in
set_option maxHeartbeats 4000000 in
theorem c_X12_opens_j9 {k0 : K0} {G : Gx} {Qp : Option AV → Fx → Hp → Prop} (hM : MB (KM k0 0 0 Qp) G M_X12_opens 2) (h : Hp)   {P : Hp → Prop} (hq : ∀ z : Hp, P z → Qp none FN z) (hh : OK (X12_opens_j9 h) P) : ATk (KM k0 0 0 Qp) FN 0 0 M_X12_opens 9 [some (aR 150)] [] h := by
  unfold X12_opens_j9 at hh
  refine A_blk hM.1 8 (lv1 := [some (aR 150)]) (s1 := [aR 150, aR 150]) (h1 := setH h 150 39 ((h 150 39) + 1)) rfl ?_
  refine A_callV hM rfl rfl (mem_GW 1949 (by decide +kernel) rfl) mi_X12_here (As := []) (rest := [aR 150]) (ct_X12_here (setH h 150 39 ((h 150 39) + 1)) (OK_bind hh)) (by decide) ⟨Nat.zero_le _, Nat.zero_le _⟩ rfl rfl (Nat.le_of_ble_eq_true rfl) (by decide) rfl (by decide) rfl (fun r F' h' hq1 => ?_)
  obtain ⟨rfl, r1, rfl, e9, hh⟩ := hq1
  subst h'
  refine A_callV hM rfl rfl (mem_GW 1972 (by decide +kernel) rfl) mi_X12_puts (As := [aI r1]) (rest := []) (ct_X12_puts r1 (setH h 150 39 ((h 150 39) + 1)) (OK_bind hh)) (by decide) ⟨Nat.zero_le _, Nat.zero_le _⟩ rfl rfl (Nat.le_of_ble_eq_true rfl) (by decide) rfl (by decide) rfl (fun r F' h' hq1 => ?_)
  obtain ⟨rfl, rfl, hh⟩ := hq1
  obtain ⟨r2, rfl⟩ : ∃ z, z = h' := ⟨_, rfl⟩
  exact A_retv hM.1 rfl rfl rfl (hq r2 hh)

set_option maxRecDepth 20000 in
set_option maxHeartbeats 4000000 in
theorem c_X12_opens {k0 : K0} {G : Gx} {Qp : Option AV → Fx → Hp → Prop} (hM : MB (KM k0 0 0 Qp) G M_X12_opens 2) (h : Hp)   {P : Hp → Prop} (hq : ∀ z : Hp, P z → Qp none FN z) (hh : OK (X12_opens h) P) : ATk (KM k0 0 0 Qp) FN 0 0 M_X12_opens 0 [some (aR 150)] [] h := by
  unfold X12_opens at hh
  refine A_blk hM.1 3 (lv1 := [some (aR 150)]) (s1 := [aI 6, aI (h 150 39)]) (h1 := h) rfl ?_
  refine A_icmp hM.1 rfl rfl (fun hc => ?_) (fun hc => ?_)
  · replace hh := OK_t hh hc
    exact c_X12_opens_j9 hM h hq hh
  · replace hh := OK_f hh hc
    refine A_blk hM.1 4 (lv1 := [some (aR 150)]) (s1 := [aI (h 150 34), aI 5, aR 150]) (h1 := h) rfl ?_
    refine A_callV hM rfl rfl (mem_GW 1956 (by decide +kernel) rfl) mi_X12_wrongs (As := [aI 5, aI (h 150 34)]) (rest := []) (ct_X12_wrongs 5 (h 150 34) h (OK_bind hh)) (by decide) ⟨Nat.zero_le _, Nat.zero_le _⟩ rfl rfl (Nat.le_of_ble_eq_true rfl) (by decide) rfl (by decide) rfl (fun r F' h' hq1 => ?_)
    obtain ⟨rfl, rfl, hh⟩ := hq1
    obtain ⟨r3, rfl⟩ : ∃ z, z = h' := ⟨_, rfl⟩
    exact c_X12_opens_j9 hM r3 hq hh

set_option maxRecDepth 20000 in
set_option maxHeartbeats 4000000 in
theorem ct_X12_opens {G : Gx} (h : Hp)   {P : Hp → Prop} (hh : OK (X12_opens h) P) : CT G yX12_opens M_X12_opens 2 0 0 FN h [aR 150] (fun r F' h' => F' = FN ∧ r = none ∧ P h') :=
  CT.of (by decide +kernel) rfl (Nat.le_of_ble_eq_true rfl) k_X12_opens fun k0 _ _ hM => c_X12_opens hM h (fun z hz => ⟨rfl, rfl, hz⟩) hh

theorem mi_X12_seesDigit : MIv yX12_seesDigit M_X12_seesDigit 0 := ⟨⟨(mem_GW 1979 (by decide +kernel) rfl), (mem_GW 135 (by decide +kernel) rfl), by decide +kernel, by decide +kernel, by decide +kernel, by decide⟩, (mem_GW 1978 (by decide +kernel) rfl), (mem_GW 70 (by decide +kernel) rfl)⟩
set_option maxRecDepth 20000 in
set_option maxHeartbeats 4000000 in
theorem c_X12_seesDigit {k0 : K0} {G : Gx} {Qp : Option AV → Fx → Hp → Prop} (hM : MB (KM k0 0 0 Qp) G M_X12_seesDigit 2) (h : Hp)   {P : Int → Prop} (hq : ∀ z : Int, P z → Qp (some (aI z)) FN h) (hh : OK (X12_seesDigit h) P) : ATk (KM k0 0 0 Qp) FN 0 0 M_X12_seesDigit 0 [some (aR 150)] [] h := by
  unfold X12_seesDigit at hh
  refine A_blk hM.1 1 (lv1 := [some (aR 150)]) (s1 := [aR 150]) (h1 := h) rfl ?_
  refine A_callV hM rfl rfl (mem_GW 1949 (by decide +kernel) rfl) mi_X12_here (As := []) (rest := []) (ct_X12_here h (OK_bind hh)) (by decide) ⟨Nat.zero_le _, Nat.zero_le _⟩ rfl rfl (Nat.le_of_ble_eq_true rfl) (by decide) rfl (by decide) rfl (fun r F' h' hq1 => ?_)
  obtain ⟨rfl, r1, rfl, e9, hh⟩ := hq1
  subst h'
  refine A_blk hM.1 3 (lv1 := [some (aR 150)]) (s1 := [aL 57, aL 48, aL (w32 r1)]) (h1 := h) rfl ?_
  refine A_callS hM rfl rfl (mem_GW 1879 (by decide +kernel) rfl) mi_X12_lies ms_X12_lies (As := [aL (w32 r1), aL 48, aL 57]) (rest := []) (ct_X12_lies (w32 r1) 48 57 h (OK_bind hh)) (by decide) ⟨Nat.zero_le _, Nat.zero_le _⟩ rfl rfl (Nat.le_of_ble_eq_true rfl) (fun r F' h' hq1 => ?_)
  obtain ⟨rfl, r2, rfl, e9, hh⟩ := hq1
  subst h'
  obtain ⟨hz3, hh⟩ := OK_g hh
  exact A_retz hM.1 rfl rfl rfl hz3 (hq r2 hh)

set_option maxRecDepth 20000 in
set_option maxHeartbeats 4000000 in
theorem ct_X12_seesDigit {G : Gx} (h : Hp)   {P : Int → Prop} (hh : OK (X12_seesDigit h) P) : CT G yX12_seesDigit M_X12_seesDigit 2 0 0 FN h [aR 150] (fun r F' h' => F' = FN ∧ ∃ z, r = some (aI z) ∧ h' = h ∧ P z) :=
  CT.of (by decide +kernel) rfl (Nat.le_of_ble_eq_true rfl) k_X12_seesDigit fun k0 _ _ hM => c_X12_seesDigit hM h (fun z hz => ⟨rfl, z, rfl, rfl, hz⟩) hh

theorem mi_X12_reads : MIv yX12_reads M_X12_reads 0 := ⟨⟨(mem_GW 1985 (by decide +kernel) rfl), (mem_GW 135 (by decide +kernel) rfl), by decide +kernel, by decide +kernel, by decide +kernel, by decide⟩, (mem_GW 1984 (by decide +kernel) rfl), (mem_GW 71 (by decide +kernel) rfl)⟩
set_option maxRecDepth 20000 in
set_option maxHeartbeats 4000000 in
theorem c_X12_reads_j22 {k0 : K0} {G : Gx} {Qp : Option AV → Fx → Hp → Prop} (hM : MB (KM k0 0 0 Qp) G M_X12_reads 3) (v1 : Int) (v2 : Int) (h : Hp)   {P : ((Int × Hp) ⊕ (Int × Hp)) → Prop} (hin : ∀ y : Int × Hp, P (.inl y) → ATk (KM k0 0 0 Qp) FN 0 0 M_X12_reads 5 [some (aR 150), some (aI v1), some (aI y.1)] [] y.2) (hout0 : ∀ y : Int × Hp, P (.inr y) → ATk (KM k0 0 0 Qp) FN 0 0 M_X12_reads 38 [none, none, some (aI y.1)] [] y.2) (hh : OK (X12_reads_j22 v1 v2 h) P) : ATk (KM k0 0 0 Qp) FN 0 0 M_X12_reads 22 [some (aR 150), some (aI v1), some (aI v2)] [] h := by
  unfold X12_reads_j22 at hh
  refine A_blk hM.1 4 (lv1 := [some (aR 150), some (aI v1), some (aI v2)]) (s1 := [aR 150, aI (10 * v2)]) (h1 := h) rfl ?_
  refine A_callV hM rfl rfl (mem_GW 1949 (by decide +kernel) rfl) mi_X12_here (As := []) (rest := [aI (10 * v2)]) (ct_X12_here h (OK_bind hh)) (by decide) ⟨Nat.zero_le _, Nat.zero_le _⟩ rfl rfl (Nat.le_of_ble_eq_true rfl) (by decide) rfl (by decide) rfl (fun r F' h' hq1 => ?_)
  obtain ⟨rfl, r3, rfl, e9, hh⟩ := hq1
  subst h'
  refine A_blk hM.1 10 (lv1 := [some (aR 150), some (aI v1), some (aI (((10 * v2) + r3) - 48))]) (s1 := []) (h1 := setH h 150 34 ((h 150 34) + 1)) rfl ?_
  refine A_go hM.1 rfl rfl ?_
  exact hin (((10 * v2) + r3) - 48, setH h 150 34 ((h 150 34) + 1)) hh

set_option maxRecDepth 20000 in
set_option maxHeartbeats 4000000 in
theorem c_X12_reads_l5 {k0 : K0} {G : Gx} {Qp : Option AV → Fx → Hp → Prop} (hM : MB (KM k0 0 0 Qp) G M_X12_reads 3) (v1 : Int) (x : Int × Hp)   {P : ((Int × Hp) ⊕ (Int × Hp)) → Prop} (hin : ∀ y : Int × Hp, P (.inl y) → ATk (KM k0 0 0 Qp) FN 0 0 M_X12_reads 5 [some (aR 150), some (aI v1), some (aI y.1)] [] y.2) (hout0 : ∀ y : Int × Hp, P (.inr y) → ATk (KM k0 0 0 Qp) FN 0 0 M_X12_reads 38 [none, none, some (aI y.1)] [] y.2) (hh : OK (X12_reads_l5 v1 x) P) : ATk (KM k0 0 0 Qp) FN 0 0 M_X12_reads 5 [some (aR 150), some (aI v1), some (aI x.1)] [] x.2 := by
  unfold X12_reads_l5 at hh
  refine A_blk hM.1 1 (lv1 := [some (aR 150), some (aI v1), some (aI x.1)]) (s1 := [aR 150]) (h1 := x.2) rfl ?_
  refine A_callV hM rfl rfl (mem_GW 1941 (by decide +kernel) rfl) mi_X12_isGood (As := []) (rest := []) (ct_X12_isGood x.2 (OK_bind hh)) (by decide) ⟨Nat.zero_le _, Nat.zero_le _⟩ rfl rfl (Nat.le_of_ble_eq_true rfl) (by decide) rfl (by decide) rfl (fun r F' h' hq1 => ?_)
  obtain ⟨rfl, r1, rfl, e9, hh⟩ := hq1
  subst h'
  refine A_ifc hM.1 rfl rfl (fun hc => ?_) (fun hc => ?_)
  · replace hh := OK_t hh hc
    refine A_mask [false, false, true] (lv1 := [none, none, some (aI x.1)]) rfl ?_
    exact hout0 (x.1, x.2) hh
  · replace hh := OK_f hh hc
    refine A_blk hM.1 1 (lv1 := [some (aR 150), some (aI v1), some (aI x.1)]) (s1 := [aR 150]) (h1 := x.2) rfl ?_
    refine A_callV hM rfl rfl (mem_GW 1976 (by decide +kernel) rfl) mi_X12_seesDigit (As := []) (rest := []) (ct_X12_seesDigit x.2 (OK_bind hh)) (by decide) ⟨Nat.zero_le _, Nat.zero_le _⟩ rfl rfl (Nat.le_of_ble_eq_true rfl) (by decide) rfl (by decide) rfl (fun r F' h' hq1 => ?_)
    obtain ⟨rfl, r2, rfl, e9, hh⟩ := hq1
    subst h'
    refine A_ifc hM.1 rfl rfl (fun hc => ?_) (fun hc => ?_)
    · replace hh := OK_t hh hc
      refine A_mask [false, false, true] (lv1 := [none, none, some (aI x.1)]) rfl ?_
      exact hout0 (x.1, x.2) hh
    · replace hh := OK_f hh hc
      refine A_blk hM.1 5 (lv1 := [some (aR 150), some (aI v1), some (aI x.1)]) (s1 := [aI (v1 + 5), aI (x.2 150 34)]) (h1 := x.2) rfl ?_
      refine A_icmp hM.1 rfl rfl (fun hc => ?_) (fun hc => ?_)
      · replace hh := OK_t hh hc
        exact c_X12_reads_j22 hM v1 x.1 x.2 hin hout0 hh
      · replace hh := OK_f hh hc
        refine A_blk hM.1 4 (lv1 := [some (aR 150), some (aI v1), some (aI x.1)]) (s1 := [aI (x.2 150 34), aI 2, aR 150]) (h1 := x.2) rfl ?_
        refine A_callV hM rfl rfl (mem_GW 1956 (by decide +kernel) rfl) mi_X12_wrongs (As := [aI 2, aI (x.2 150 34)]) (rest := []) (ct_X12_wrongs 2 (x.2 150 34) x.2 (OK_bind hh)) (by decide) ⟨Nat.zero_le _, Nat.zero_le _⟩ rfl rfl (Nat.le_of_ble_eq_true rfl) (by decide) rfl (by decide) rfl (fun r F' h' hq1 => ?_)
        obtain ⟨rfl, rfl, hh⟩ := hq1
        obtain ⟨r4, rfl⟩ : ∃ z, z = h' := ⟨_, rfl⟩
        exact c_X12_reads_j22 hM v1 x.1 r4 hin hout0 hh

set_option maxRecDepth 20000 in
set_option maxHeartbeats 4000000 in
theorem c_X12_reads {k0 : K0} {G : Gx} {Qp : Option AV → Fx → Hp → Prop} (hM : MB (KM k0 0 0 Qp) G M_X12_reads 3) (h : Hp)   {P : (Int × Hp) → Prop} (hq : ∀ z : Int × Hp, P z → Qp (some (aI z.1)) FN z.2) (hh : OK (X12_reads h) P) : ATk (KM k0 0 0 Qp) FN 0 0 M_X12_reads 0 [some (aR 150), none, none] [] h := by
  unfold X12_reads at hh
  refine A_blk hM.1 5 (lv1 := [some (aR 150), some (aI (h 150 34)), some (aI 0)]) (s1 := []) (h1 := h) rfl ?_
  refine iter_ok (s := (0, h)) (Gp := fun z => ATk (KM k0 0 0 Qp) FN 0 0 M_X12_reads 5 [some (aR 150), some (aI (h 150 34)), some (aI z.1)] [] z.2) (E := fun z => ATk (KM k0 0 0 Qp) FN 0 0 M_X12_reads 38 [none, none, some (aI z.1)] [] z.2) (fun z P1 g1 g2 g3 => c_X12_reads_l5 hM (h 150 34) z g2 g3 g1) (OK_bind hh) (fun x5 hh => ?_)
  refine A_blk hM.1 1 (lv1 := [none, none, some (aI x5.1)]) (s1 := [aI x5.1]) (h1 := x5.2) rfl ?_
  exact A_reti hM.1 rfl rfl rfl (hq (x5.1, x5.2) hh)

set_option maxRecDepth 20000 in
set_option maxHeartbeats 4000000 in
theorem ct_X12_reads {G : Gx} (h : Hp)   {P : (Int × Hp) → Prop} (hh : OK (X12_reads h) P) : CT G yX12_reads M_X12_reads 3 0 0 FN h [aR 150] (fun r F' h' => F' = FN ∧ ∃ z, r = some (aI z.1) ∧ h' = z.2 ∧ P z) :=
  CT.of (by decide +kernel) rfl (Nat.le_of_ble_eq_true rfl) k_X12_reads fun k0 _ _ hM => c_X12_reads hM h (fun z hz => ⟨rfl, z, rfl, rfl, hz⟩) hh

theorem mi_X12_isTimes : MIs yX12_isTimes M_X12_isTimes 1 := ⟨(mem_GW 1999 (by decide +kernel) rfl), (mem_GW 135 (by decide +kernel) rfl), by decide +kernel, by decide +kernel, by decide +kernel, by decide⟩
theorem ms_X12_isTimes : .static yX12_isTimes ∈ GW := (mem_GW 1998 (by decide +kernel) rfl)
set_option maxRecDepth 20000 in
set_option maxHeartbeats 4000000 in
theorem c_X12_isTimes_j9 {k0 : K0} {G : Gx} {Qp : Option AV → Fx → Hp → Prop} (hM : MB (KM k0 0 0 Qp) G M_X12_isTimes 1)  (h : Hp)  {P : Int → Prop} (hq : ∀ z : Int, P z → Qp (some (aI z)) FN h) (hh : OK (X12_isTimes_j9 ) P) : ATk (KM k0 0 0 Qp) FN 0 0 M_X12_isTimes 9 [none] [] h := by
  unfold X12_isTimes_j9 at hh
  refine A_blk hM.1 1 (lv1 := [none]) (s1 := [aI 1]) (h1 := h) rfl ?_
  refine A_go hM.1 rfl rfl ?_
  exact A_retz hM.1 rfl rfl rfl (by decide) (hq 1 hh)

set_option maxRecDepth 20000 in
set_option maxHeartbeats 4000000 in
theorem c_X12_isTimes {k0 : K0} {G : Gx} {Qp : Option AV → Fx → Hp → Prop} (hM : MB (KM k0 0 0 Qp) G M_X12_isTimes 1) (v0 : Int) (h : Hp)  {P : Int → Prop} (hq : ∀ z : Int, P z → Qp (some (aI z)) FN h) (hh : OK (X12_isTimes v0) P) : ATk (KM k0 0 0 Qp) FN 0 0 M_X12_isTimes 0 [some (aI v0)] [] h := by
  unfold X12_isTimes at hh
  refine A_blk hM.1 2 (lv1 := [some (aI v0)]) (s1 := [aI 42, aI v0]) (h1 := h) rfl ?_
  refine A_icmp hM.1 rfl rfl (fun hc => ?_) (fun hc => ?_)
  · replace hh := OK_t hh hc
    refine A_mask [false] (lv1 := [none]) rfl ?_
    exact c_X12_isTimes_j9 hM h hq hh
  · replace hh := OK_f hh hc
    refine A_blk hM.1 2 (lv1 := [some (aI v0)]) (s1 := [aI 47, aI v0]) (h1 := h) rfl ?_
    refine A_icmp hM.1 rfl rfl (fun hc => ?_) (fun hc => ?_)
    · replace hh := OK_t hh hc
      refine A_mask [false] (lv1 := [none]) rfl ?_
      exact c_X12_isTimes_j9 hM h hq hh
    · replace hh := OK_f hh hc
      refine A_blk hM.1 2 (lv1 := [some (aI v0)]) (s1 := [aI 37, aI v0]) (h1 := h) rfl ?_
      refine A_icmp hM.1 rfl rfl (fun hc => ?_) (fun hc => ?_)
      · replace hh := OK_t hh hc
        refine A_blk hM.1 1 (lv1 := [some (aI v0)]) (s1 := [aI 0]) (h1 := h) rfl ?_
        exact A_retz hM.1 rfl rfl rfl (by decide) (hq 0 hh)
      · replace hh := OK_f hh hc
        refine A_mask [false] (lv1 := [none]) rfl ?_
        exact c_X12_isTimes_j9 hM h hq hh

set_option maxRecDepth 20000 in
set_option maxHeartbeats 4000000 in
theorem ct_X12_isTimes {G : Gx} (v0 : Int) (h : Hp)  {P : Int → Prop} (hh : OK (X12_isTimes v0) P) : CT G yX12_isTimes M_X12_isTimes 1 0 0 FN h [aI v0] (fun r F' h' => F' = FN ∧ ∃ z, r = some (aI z) ∧ h' = h ∧ P z) :=
  CT.of (by decide +kernel) rfl (Nat.le_of_ble_eq_true rfl) k_X12_isTimes fun k0 _ _ hM => c_X12_isTimes hM v0 h (fun z hz => ⟨rfl, z, rfl, rfl, hz⟩) hh

theorem mi_X12_isPlus : MIs yX12_isPlus M_X12_isPlus 1 := ⟨(mem_GW 2002 (by decide +kernel) rfl), (mem_GW 135 (by decide +kernel) rfl), by decide +kernel, by decide +kernel, by decide +kernel, by decide⟩
theorem ms_X12_isPlus : .static yX12_isPlus ∈ GW := (mem_GW 2001 (by decide +kernel) rfl)
set_option maxRecDepth 20000 in
set_option maxHeartbeats 4000000 in
theorem c_X12_isPlus_j6 {k0 : K0} {G : Gx} {Qp : Option AV → Fx → Hp → Prop} (hM : MB (KM k0 0 0 Qp) G M_X12_isPlus 1)  (h : Hp)  {P : Int → Prop} (hq : ∀ z : Int, P z → Qp (some (aI z)) FN h) (hh : OK (X12_isPlus_j6 ) P) : ATk (KM k0 0 0 Qp) FN 0 0 M_X12_isPlus 6 [none] [] h := by
  unfold X12_isPlus_j6 at hh
  refine A_blk hM.1 1 (lv1 := [none]) (s1 := [aI 1]) (h1 := h) rfl ?_
  refine A_go hM.1 rfl rfl ?_
  exact A_retz hM.1 rfl rfl rfl (by decide) (hq 1 hh)

set_option maxRecDepth 20000 in
set_option maxHeartbeats 4000000 in
theorem c_X12_isPlus {k0 : K0} {G : Gx} {Qp : Option AV → Fx → Hp → Prop} (hM : MB (KM k0 0 0 Qp) G M_X12_isPlus 1) (v0 : Int) (h : Hp)  {P : Int → Prop} (hq : ∀ z : Int, P z → Qp (some (aI z)) FN h) (hh : OK (X12_isPlus v0) P) : ATk (KM k0 0 0 Qp) FN 0 0 M_X12_isPlus 0 [some (aI v0)] [] h := by
  unfold X12_isPlus at hh
  refine A_blk hM.1 2 (lv1 := [some (aI v0)]) (s1 := [aI 43, aI v0]) (h1 := h) rfl ?_
  refine A_icmp hM.1 rfl rfl (fun hc => ?_) (fun hc => ?_)
  · replace hh := OK_t hh hc
    refine A_mask [false] (lv1 := [none]) rfl ?_
    exact c_X12_isPlus_j6 hM h hq hh
  · replace hh := OK_f hh hc
    refine A_blk hM.1 2 (lv1 := [some (aI v0)]) (s1 := [aI 45, aI v0]) (h1 := h) rfl ?_
    refine A_icmp hM.1 rfl rfl (fun hc => ?_) (fun hc => ?_)
    · replace hh := OK_t hh hc
      refine A_blk hM.1 1 (lv1 := [some (aI v0)]) (s1 := [aI 0]) (h1 := h) rfl ?_
      exact A_retz hM.1 rfl rfl rfl (by decide) (hq 0 hh)
    · replace hh := OK_f hh hc
      refine A_mask [false] (lv1 := [none]) rfl ?_
      exact c_X12_isPlus_j6 hM h hq hh

set_option maxRecDepth 20000 in
set_option maxHeartbeats 4000000 in
theorem ct_X12_isPlus {G : Gx} (v0 : Int) (h : Hp)  {P : Int → Prop} (hh : OK (X12_isPlus v0) P) : CT G yX12_isPlus M_X12_isPlus 1 0 0 FN h [aI v0] (fun r F' h' => F' = FN ∧ ∃ z, r = some (aI z) ∧ h' = h ∧ P z) :=
  CT.of (by decide +kernel) rfl (Nat.le_of_ble_eq_true rfl) k_X12_isPlus fun k0 _ _ hM => c_X12_isPlus hM v0 h (fun z hz => ⟨rfl, z, rfl, rfl, hz⟩) hh

theorem mi_X12_isSign : MIs yX12_isSign M_X12_isSign 1 := ⟨(mem_GW 2021 (by decide +kernel) rfl), (mem_GW 135 (by decide +kernel) rfl), by decide +kernel, by decide +kernel, by decide +kernel, by decide⟩
theorem ms_X12_isSign : .static yX12_isSign ∈ GW := (mem_GW 2020 (by decide +kernel) rfl)
set_option maxRecDepth 20000 in
set_option maxHeartbeats 4000000 in
theorem c_X12_isSign_j9 {k0 : K0} {G : Gx} {Qp : Option AV → Fx → Hp → Prop} (hM : MB (KM k0 0 0 Qp) G M_X12_isSign 1)  (h : Hp)  {P : Int → Prop} (hq : ∀ z : Int, P z → Qp (some (aI z)) FN h) (hh : OK (X12_isSign_j9 ) P) : ATk (KM k0 0 0 Qp) FN 0 0 M_X12_isSign 9 [none] [] h := by
  unfold X12_isSign_j9 at hh
  refine A_blk hM.1 1 (lv1 := [none]) (s1 := [aI 1]) (h1 := h) rfl ?_
  refine A_go hM.1 rfl rfl ?_
  exact A_retz hM.1 rfl rfl rfl (by decide) (hq 1 hh)

set_option maxRecDepth 20000 in
set_option maxHeartbeats 4000000 in
theorem c_X12_isSign {k0 : K0} {G : Gx} {Qp : Option AV → Fx → Hp → Prop} (hM : MB (KM k0 0 0 Qp) G M_X12_isSign 1) (v0 : Int) (h : Hp)  {P : Int → Prop} (hq : ∀ z : Int, P z → Qp (some (aI z)) FN h) (hh : OK (X12_isSign v0) P) : ATk (KM k0 0 0 Qp) FN 0 0 M_X12_isSign 0 [some (aI v0)] [] h := by
  unfold X12_isSign at hh
  refine A_blk hM.1 2 (lv1 := [some (aI v0)]) (s1 := [aI 60, aI v0]) (h1 := h) rfl ?_
  refine A_icmp hM.1 rfl rfl (fun hc => ?_) (fun hc => ?_)
  · replace hh := OK_t hh hc
    refine A_mask [false] (lv1 := [none]) rfl ?_
    exact c_X12_isSign_j9 hM h hq hh
  · replace hh := OK_f hh hc
    refine A_blk hM.1 2 (lv1 := [some (aI v0)]) (s1 := [aI 62, aI v0]) (h1 := h) rfl ?_
    refine A_icmp hM.1 rfl rfl (fun hc => ?_) (fun hc => ?_)
    · replace hh := OK_t hh hc
      refine A_mask [false] (lv1 := [none]) rfl ?_
      exact c_X12_isSign_j9 hM h hq hh
    · replace hh := OK_f hh hc
      refine A_blk hM.1 2 (lv1 := [some (aI v0)]) (s1 := [aI 61, aI v0]) (h1 := h) rfl ?_
      refine A_icmp hM.1 rfl rfl (fun hc => ?_) (fun hc => ?_)
      · replace hh := OK_t hh hc
        refine A_blk hM.1 1 (lv1 := [some (aI v0)]) (s1 := [aI 0]) (h1 := h) rfl ?_
        exact A_retz hM.1 rfl rfl rfl (by decide) (hq 0 hh)
      · replace hh := OK_f hh hc
        refine A_mask [false] (lv1 := [none]) rfl ?_
        exact c_X12_isSign_j9 hM h hq hh

set_option maxRecDepth 20000 in
set_option maxHeartbeats 4000000 in
theorem ct_X12_isSign {G : Gx} (v0 : Int) (h : Hp)  {P : Int → Prop} (hh : OK (X12_isSign v0) P) : CT G yX12_isSign M_X12_isSign 1 0 0 FN h [aI v0] (fun r F' h' => F' = FN ∧ ∃ z, r = some (aI z) ∧ h' = h ∧ P z) :=
  CT.of (by decide +kernel) rfl (Nat.le_of_ble_eq_true rfl) k_X12_isSign fun k0 _ _ hM => c_X12_isSign hM v0 h (fun z hz => ⟨rfl, z, rfl, rfl, hz⟩) hh

theorem mi_X12_isValue : MIs yX12_isValue M_X12_isValue 1 := ⟨(mem_GW 1992 (by decide +kernel) rfl), (mem_GW 135 (by decide +kernel) rfl), by decide +kernel, by decide +kernel, by decide +kernel, by decide⟩
theorem ms_X12_isValue : .static yX12_isValue ∈ GW := (mem_GW 1991 (by decide +kernel) rfl)
set_option maxRecDepth 20000 in
set_option maxHeartbeats 4000000 in
theorem c_X12_isValue_j42 {k0 : K0} {G : Gx} {Qp : Option AV → Fx → Hp → Prop} (hM : MB (KM k0 0 0 Qp) G M_X12_isValue 1)  (h : Hp)  {P : Int → Prop} (hq : ∀ z : Int, P z → Qp (some (aI z)) FN h) (hh : OK (X12_isValue_j42 ) P) : ATk (KM k0 0 0 Qp) FN 0 0 M_X12_isValue 42 [none] [] h := by
  unfold X12_isValue_j42 at hh
  refine A_blk hM.1 1 (lv1 := [none]) (s1 := [aI 1]) (h1 := h) rfl ?_
  refine A_go hM.1 rfl rfl ?_
  exact A_retz hM.1 rfl rfl rfl (by decide) (hq 1 hh)

set_option maxRecDepth 20000 in
set_option maxHeartbeats 4000000 in
theorem c_X12_isValue {k0 : K0} {G : Gx} {Qp : Option AV → Fx → Hp → Prop} (hM : MB (KM k0 0 0 Qp) G M_X12_isValue 1) (v0 : Int) (h : Hp)  {P : Int → Prop} (hq : ∀ z : Int, P z → Qp (some (aI z)) FN h) (hh : OK (X12_isValue v0) P) : ATk (KM k0 0 0 Qp) FN 0 0 M_X12_isValue 0 [some (aI v0)] [] h := by
  unfold X12_isValue at hh
  refine A_blk hM.1 2 (lv1 := [some (aI v0)]) (s1 := [aI 98, aI v0]) (h1 := h) rfl ?_
  refine A_icmp hM.1 rfl rfl (fun hc => ?_) (fun hc => ?_)
  · replace hh := OK_t hh hc
    refine A_mask [false] (lv1 := [none]) rfl ?_
    exact c_X12_isValue_j42 hM h hq hh
  · replace hh := OK_f hh hc
    refine A_blk hM.1 2 (lv1 := [some (aI v0)]) (s1 := [aI 99, aI v0]) (h1 := h) rfl ?_
    refine A_icmp hM.1 rfl rfl (fun hc => ?_) (fun hc => ?_)
    · replace hh := OK_t hh hc
      refine A_mask [false] (lv1 := [none]) rfl ?_
      exact c_X12_isValue_j42 hM h hq hh
    · replace hh := OK_f hh hc
      refine A_blk hM.1 2 (lv1 := [some (aI v0)]) (s1 := [aI 105, aI v0]) (h1 := h) rfl ?_
      refine A_icmp hM.1 rfl rfl (fun hc => ?_) (fun hc => ?_)
      · replace hh := OK_t hh hc
        refine A_mask [false] (lv1 := [none]) rfl ?_
        exact c_X12_isValue_j42 hM h hq hh
      · replace hh := OK_f hh hc
        refine A_blk hM.1 2 (lv1 := [some (aI v0)]) (s1 := [aI 107, aI v0]) (h1 := h) rfl ?_
        refine A_icmp hM.1 rfl rfl (fun hc => ?_) (fun hc => ?_)
        · replace hh := OK_t hh hc
          refine A_mask [false] (lv1 := [none]) rfl ?_
          exact c_X12_isValue_j42 hM h hq hh
        · replace hh := OK_f hh hc
          refine A_blk hM.1 2 (lv1 := [some (aI v0)]) (s1 := [aI 108, aI v0]) (h1 := h) rfl ?_
          refine A_icmp hM.1 rfl rfl (fun hc => ?_) (fun hc => ?_)
          · replace hh := OK_t hh hc
            refine A_mask [false] (lv1 := [none]) rfl ?_
            exact c_X12_isValue_j42 hM h hq hh
          · replace hh := OK_f hh hc
            refine A_blk hM.1 2 (lv1 := [some (aI v0)]) (s1 := [aI 109, aI v0]) (h1 := h) rfl ?_
            refine A_icmp hM.1 rfl rfl (fun hc => ?_) (fun hc => ?_)
            · replace hh := OK_t hh hc
              refine A_mask [false] (lv1 := [none]) rfl ?_
              exact c_X12_isValue_j42 hM h hq hh
            · replace hh := OK_f hh hc
              refine A_blk hM.1 2 (lv1 := [some (aI v0)]) (s1 := [aI 110, aI v0]) (h1 := h) rfl ?_
              refine A_icmp hM.1 rfl rfl (fun hc => ?_) (fun hc => ?_)
              · replace hh := OK_t hh hc
                refine A_mask [false] (lv1 := [none]) rfl ?_
                exact c_X12_isValue_j42 hM h hq hh
              · replace hh := OK_f hh hc
                refine A_blk hM.1 2 (lv1 := [some (aI v0)]) (s1 := [aI 112, aI v0]) (h1 := h) rfl ?_
                refine A_icmp hM.1 rfl rfl (fun hc => ?_) (fun hc => ?_)
                · replace hh := OK_t hh hc
                  refine A_mask [false] (lv1 := [none]) rfl ?_
                  exact c_X12_isValue_j42 hM h hq hh
                · replace hh := OK_f hh hc
                  refine A_blk hM.1 2 (lv1 := [some (aI v0)]) (s1 := [aI 115, aI v0]) (h1 := h) rfl ?_
                  refine A_icmp hM.1 rfl rfl (fun hc => ?_) (fun hc => ?_)
                  · replace hh := OK_t hh hc
                    refine A_mask [false] (lv1 := [none]) rfl ?_
                    exact c_X12_isValue_j42 hM h hq hh
                  · replace hh := OK_f hh hc
                    refine A_blk hM.1 2 (lv1 := [some (aI v0)]) (s1 := [aI 116, aI v0]) (h1 := h) rfl ?_
                    refine A_icmp hM.1 rfl rfl (fun hc => ?_) (fun hc => ?_)
                    · replace hh := OK_t hh hc
                      refine A_mask [false] (lv1 := [none]) rfl ?_
                      exact c_X12_isValue_j42 hM h hq hh
                    · replace hh := OK_f hh hc
                      refine A_blk hM.1 2 (lv1 := [some (aI v0)]) (s1 := [aI 119, aI v0]) (h1 := h) rfl ?_
                      refine A_icmp hM.1 rfl rfl (fun hc => ?_) (fun hc => ?_)
                      · replace hh := OK_t hh hc
                        refine A_mask [false] (lv1 := [none]) rfl ?_
                        exact c_X12_isValue_j42 hM h hq hh
                      · replace hh := OK_f hh hc
                        refine A_blk hM.1 2 (lv1 := [some (aI v0)]) (s1 := [aI 120, aI v0]) (h1 := h) rfl ?_
                        refine A_icmp hM.1 rfl rfl (fun hc => ?_) (fun hc => ?_)
                        · replace hh := OK_t hh hc
                          refine A_mask [false] (lv1 := [none]) rfl ?_
                          exact c_X12_isValue_j42 hM h hq hh
                        · replace hh := OK_f hh hc
                          refine A_blk hM.1 2 (lv1 := [some (aI v0)]) (s1 := [aI 121, aI v0]) (h1 := h) rfl ?_
                          refine A_icmp hM.1 rfl rfl (fun hc => ?_) (fun hc => ?_)
                          · replace hh := OK_t hh hc
                            refine A_mask [false] (lv1 := [none]) rfl ?_
                            exact c_X12_isValue_j42 hM h hq hh
                          · replace hh := OK_f hh hc
                            refine A_blk hM.1 2 (lv1 := [some (aI v0)]) (s1 := [aI 122, aI v0]) (h1 := h) rfl ?_
                            refine A_icmp hM.1 rfl rfl (fun hc => ?_) (fun hc => ?_)
                            · replace hh := OK_t hh hc
                              refine A_blk hM.1 1 (lv1 := [some (aI v0)]) (s1 := [aI 0]) (h1 := h) rfl ?_
                              exact A_retz hM.1 rfl rfl rfl (by decide) (hq 0 hh)
                            · replace hh := OK_f hh hc
                              refine A_mask [false] (lv1 := [none]) rfl ?_
                              exact c_X12_isValue_j42 hM h hq hh

set_option maxRecDepth 20000 in
set_option maxHeartbeats 4000000 in
theorem ct_X12_isValue {G : Gx} (v0 : Int) (h : Hp)  {P : Int → Prop} (hh : OK (X12_isValue v0) P) : CT G yX12_isValue M_X12_isValue 1 0 0 FN h [aI v0] (fun r F' h' => F' = FN ∧ ∃ z, r = some (aI z) ∧ h' = h ∧ P z) :=
  CT.of (by decide +kernel) rfl (Nat.le_of_ble_eq_true rfl) k_X12_isValue fun k0 _ _ hM => c_X12_isValue hM v0 h (fun z hz => ⟨rfl, z, rfl, rfl, hz⟩) hh

theorem mi_X12_sums : MIv yX12_sums M_X12_sums 1 := ⟨⟨(mem_GW 2006 (by decide +kernel) rfl), (mem_GW 135 (by decide +kernel) rfl), by decide +kernel, by decide +kernel, by decide +kernel, by decide⟩, (mem_GW 2005 (by decide +kernel) rfl), (mem_GW 74 (by decide +kernel) rfl)⟩
set_option maxRecDepth 20000 in
set_option maxHeartbeats 4000000 in
theorem c_X12_sums_j10 {k0 : K0} {G : Gx} {Qp : Option AV → Fx → Hp → Prop} (hM : MB (KM k0 0 0 Qp) G M_X12_sums 3) (v1 : Int) (h : Hp)   {P : ((Hp) ⊕ (Hp)) → Prop} (hin : ∀ y : Hp, P (.inl y) → ATk (KM k0 0 0 Qp) FN 0 0 M_X12_sums 0 [some (aR 150), some (aI v1)] [] y) (hout0 : ∀ y : Hp, P (.inr y) → ATk (KM k0 0 0 Qp) FN 0 0 M_X12_sums 22 [none, none] [] y) (hh : OK (X12_sums_j10 v1 h) P) : ATk (KM k0 0 0 Qp) FN 0 0 M_X12_sums 10 [some (aR 150), some (aI v1)] [] h := by
  unfold X12_sums_j10 at hh
  refine A_blk hM.1 2 (lv1 := [some (aR 150), some (aI v1)]) (s1 := [aR 150, aR 150]) (h1 := h) rfl ?_
  refine A_callV hM rfl rfl (mem_GW 2007 (by decide +kernel) rfl) mi_X12_top (As := []) (rest := [aR 150]) (ct_X12_top h (OK_bind hh)) (by decide) ⟨Nat.zero_le _, Nat.zero_le _⟩ rfl rfl (Nat.le_of_ble_eq_true rfl) (by decide) rfl (by decide) rfl (fun r F' h' hq1 => ?_)
  obtain ⟨rfl, r3, rfl, e9, hh⟩ := hq1
  subst h'
  refine A_blk hM.1 1 (lv1 := [some (aR 150), some (aI v1)]) (s1 := [aI 0, aI r3, aR 150]) (h1 := h) rfl ?_
  refine A_callV hM rfl rfl (mem_GW 1986 (by decide +kernel) rfl) mi_X12_emit (As := [aI r3, aI 0]) (rest := []) (ct_X12_emit r3 0 h (OK_bind hh)) (by decide) ⟨Nat.zero_le _, Nat.zero_le _⟩ rfl rfl (Nat.le_of_ble_eq_true rfl) (by decide) rfl (by decide) rfl (fun r F' h' hq1 => ?_)
  obtain ⟨rfl, rfl, hh⟩ := hq1
  obtain ⟨r4, rfl⟩ : ∃ z, z = h' := ⟨_, rfl⟩
  refine A_blk hM.1 6 (lv1 := [some (aR 150), some (aI v1)]) (s1 := []) (h1 := setH r4 150 40 ((r4 150 40) - 1)) rfl ?_
  refine A_go hM.1 rfl rfl ?_
  exact hin (setH r4 150 40 ((r4 150 40) - 1)) hh

set_option maxRecDepth 20000 in
set_option maxHeartbeats 4000000 in
theorem c_X12_sums_l0 {k0 : K0} {G : Gx} {Qp : Option AV → Fx → Hp → Prop} (hM : MB (KM k0 0 0 Qp) G M_X12_sums 3) (v1 : Int) (x : Hp)   {P : ((Hp) ⊕ (Hp)) → Prop} (hin : ∀ y : Hp, P (.inl y) → ATk (KM k0 0 0 Qp) FN 0 0 M_X12_sums 0 [some (aR 150), some (aI v1)] [] y) (hout0 : ∀ y : Hp, P (.inr y) → ATk (KM k0 0 0 Qp) FN 0 0 M_X12_sums 22 [none, none] [] y) (hh : OK (X12_sums_l0 v1 x) P) : ATk (KM k0 0 0 Qp) FN 0 0 M_X12_sums 0 [some (aR 150), some (aI v1)] [] x := by
  unfold X12_sums_l0 at hh
  refine A_blk hM.1 1 (lv1 := [some (aR 150), some (aI v1)]) (s1 := [aR 150]) (h1 := x) rfl ?_
  refine A_callV hM rfl rfl (mem_GW 2007 (by decide +kernel) rfl) mi_X12_top (As := []) (rest := []) (ct_X12_top x (OK_bind hh)) (by decide) ⟨Nat.zero_le _, Nat.zero_le _⟩ rfl rfl (Nat.le_of_ble_eq_true rfl) (by decide) rfl (by decide) rfl (fun r F' h' hq1 => ?_)
  obtain ⟨rfl, r1, rfl, e9, hh⟩ := hq1
  subst h'
  refine A_callS hM rfl rfl (mem_GW 1997 (by decide +kernel) rfl) mi_X12_isTimes ms_X12_isTimes (As := [aI r1]) (rest := []) (ct_X12_isTimes r1 x (OK_bind hh)) (by decide) ⟨Nat.zero_le _, Nat.zero_le _⟩ rfl rfl (Nat.le_of_ble_eq_true rfl) (fun r F' h' hq1 => ?_)
  obtain ⟨rfl, r2, rfl, e9, hh⟩ := hq1
  subst h'
  refine A_ifc hM.1 rfl rfl (fun hc => ?_) (fun hc => ?_)
  · replace hh := OK_t hh hc
    exact c_X12_sums_j10 hM v1 x hin hout0 hh
  · replace hh := OK_f hh hc
    refine A_blk hM.1 1 (lv1 := [some (aR 150), some (aI v1)]) (s1 := [aI v1]) (h1 := x) rfl ?_
    refine A_ifc hM.1 rfl rfl (fun hc => ?_) (fun hc => ?_)
    · replace hh := OK_t hh hc
      refine A_mask [false, false] (lv1 := [none, none]) rfl ?_
      exact hout0 x hh
    · replace hh := OK_f hh hc
      refine A_blk hM.1 1 (lv1 := [some (aR 150), some (aI v1)]) (s1 := [aR 150]) (h1 := x) rfl ?_
      refine A_callV hM rfl rfl (mem_GW 2007 (by decide +kernel) rfl) mi_X12_top (As := []) (rest := []) (ct_X12_top x (OK_bind hh)) (by decide) ⟨Nat.zero_le _, Nat.zero_le _⟩ rfl rfl (Nat.le_of_ble_eq_true rfl) (by decide) rfl (by decide) rfl (fun r F' h' hq1 => ?_)
      obtain ⟨rfl, r5, rfl, e9, hh⟩ := hq1
      subst h'
      refine A_callS hM rfl rfl (mem_GW 2000 (by decide +kernel) rfl) mi_X12_isPlus ms_X12_isPlus (As := [aI r5]) (rest := []) (ct_X12_isPlus r5 x (OK_bind hh)) (by decide) ⟨Nat.zero_le _, Nat.zero_le _⟩ rfl rfl (Nat.le_of_ble_eq_true rfl) (fun r F' h' hq1 => ?_)
      obtain ⟨rfl, r6, rfl, e9, hh⟩ := hq1
      subst h'
      refine A_ifc hM.1 rfl rfl (fun hc => ?_) (fun hc => ?_)
      · replace hh := OK_t hh hc
        refine A_mask [false, false] (lv1 := [none, none]) rfl ?_
        exact hout0 x hh
      · replace hh := OK_f hh hc
        exact c_X12_sums_j10 hM v1 x hin hout0 hh

set_option maxRecDepth 20000 in
set_option maxHeartbeats 4000000 in
theorem c_X12_sums {k0 : K0} {G : Gx} {Qp : Option AV → Fx → Hp → Prop} (hM : MB (KM k0 0 0 Qp) G M_X12_sums 3) (v1 : Int) (h : Hp)   {P : Hp → Prop} (hq : ∀ z : Hp, P z → Qp none FN z) (hh : OK (X12_sums v1 h) P) : ATk (KM k0 0 0 Qp) FN 0 0 M_X12_sums 0 [some (aR 150), some (aI v1)] [] h := by
  unfold X12_sums at hh
  refine iter_ok (s := h) (Gp := fun z => ATk (KM k0 0 0 Qp) FN 0 0 M_X12_sums 0 [some (aR 150), some (aI v1)] [] z) (E := fun z => ATk (KM k0 0 0 Qp) FN 0 0 M_X12_sums 22 [none, none] [] z) (fun z P1 g1 g2 g3 => c_X12_sums_l0 hM v1 z g2 g3 g1) (OK_bind hh) (fun x7 hh => ?_)
  exact A_retv hM.1 rfl rfl rfl (hq x7 hh)

set_option maxRecDepth 20000 in
set_option maxHeartbeats 4000000 in
theorem ct_X12_sums {G : Gx} (v1 : Int) (h : Hp)   {P : Hp → Prop} (hh : OK (X12_sums v1 h) P) : CT G yX12_sums M_X12_sums 3 0 0 FN h [aR 150, aI v1] (fun r F' h' => F' = FN ∧ r = none ∧ P h') :=
  CT.of (by decide +kernel) rfl (Nat.le_of_ble_eq_true rfl) k_X12_sums fun k0 _ _ hM => c_X12_sums hM v1 h (fun z hz => ⟨rfl, rfl, hz⟩) hh

theorem mi_X12_joins : MIv yX12_joins M_X12_joins 1 := ⟨⟨(mem_GW 2033 (by decide +kernel) rfl), (mem_GW 135 (by decide +kernel) rfl), by decide +kernel, by decide +kernel, by decide +kernel, by decide⟩, (mem_GW 2032 (by decide +kernel) rfl), (mem_GW 80 (by decide +kernel) rfl)⟩
set_option maxRecDepth 20000 in
set_option maxHeartbeats 4000000 in
theorem c_X12_joins_j10 {k0 : K0} {G : Gx} {Qp : Option AV → Fx → Hp → Prop} (hM : MB (KM k0 0 0 Qp) G M_X12_joins 3) (v1 : Int) (h : Hp)   {P : ((Hp) ⊕ (Hp)) → Prop} (hin : ∀ y : Hp, P (.inl y) → ATk (KM k0 0 0 Qp) FN 0 0 M_X12_joins 0 [some (aR 150), some (aI v1)] [] y) (hout0 : ∀ y : Hp, P (.inr y) → ATk (KM k0 0 0 Qp) FN 0 0 M_X12_joins 22 [none, none] [] y) (hh : OK (X12_joins_j10 v1 h) P) : ATk (KM k0 0 0 Qp) FN 0 0 M_X12_joins 10 [some (aR 150), some (aI v1)] [] h := by
  unfold X12_joins_j10 at hh
  refine A_blk hM.1 2 (lv1 := [some (aR 150), some (aI v1)]) (s1 := [aR 150, aR 150]) (h1 := h) rfl ?_
  refine A_callV hM rfl rfl (mem_GW 2007 (by decide +kernel) rfl) mi_X12_top (As := []) (rest := [aR 150]) (ct_X12_top h (OK_bind hh)) (by decide) ⟨Nat.zero_le _, Nat.zero_le _⟩ rfl rfl (Nat.le_of_ble_eq_true rfl) (by decide) rfl (by decide) rfl (fun r F' h' hq1 => ?_)
  obtain ⟨rfl, r2, rfl, e9, hh⟩ := hq1
  subst h'
  refine A_blk hM.1 1 (lv1 := [some (aR 150), some (aI v1)]) (s1 := [aI 0, aI r2, aR 150]) (h1 := h) rfl ?_
  refine A_callV hM rfl rfl (mem_GW 1986 (by decide +kernel) rfl) mi_X12_emit (As := [aI r2, aI 0]) (rest := []) (ct_X12_emit r2 0 h (OK_bind hh)) (by decide) ⟨Nat.zero_le _, Nat.zero_le _⟩ rfl rfl (Nat.le_of_ble_eq_true rfl) (by decide) rfl (by decide) rfl (fun r F' h' hq1 => ?_)
  obtain ⟨rfl, rfl, hh⟩ := hq1
  obtain ⟨r3, rfl⟩ : ∃ z, z = h' := ⟨_, rfl⟩
  refine A_blk hM.1 6 (lv1 := [some (aR 150), some (aI v1)]) (s1 := []) (h1 := setH r3 150 40 ((r3 150 40) - 1)) rfl ?_
  refine A_go hM.1 rfl rfl ?_
  exact hin (setH r3 150 40 ((r3 150 40) - 1)) hh

set_option maxRecDepth 20000 in
set_option maxHeartbeats 4000000 in
theorem c_X12_joins_l0 {k0 : K0} {G : Gx} {Qp : Option AV → Fx → Hp → Prop} (hM : MB (KM k0 0 0 Qp) G M_X12_joins 3) (v1 : Int) (x : Hp)   {P : ((Hp) ⊕ (Hp)) → Prop} (hin : ∀ y : Hp, P (.inl y) → ATk (KM k0 0 0 Qp) FN 0 0 M_X12_joins 0 [some (aR 150), some (aI v1)] [] y) (hout0 : ∀ y : Hp, P (.inr y) → ATk (KM k0 0 0 Qp) FN 0 0 M_X12_joins 22 [none, none] [] y) (hh : OK (X12_joins_l0 v1 x) P) : ATk (KM k0 0 0 Qp) FN 0 0 M_X12_joins 0 [some (aR 150), some (aI v1)] [] x := by
  unfold X12_joins_l0 at hh
  refine A_blk hM.1 1 (lv1 := [some (aR 150), some (aI v1)]) (s1 := [aR 150]) (h1 := x) rfl ?_
  refine A_callV hM rfl rfl (mem_GW 2007 (by decide +kernel) rfl) mi_X12_top (As := []) (rest := []) (ct_X12_top x (OK_bind hh)) (by decide) ⟨Nat.zero_le _, Nat.zero_le _⟩ rfl rfl (Nat.le_of_ble_eq_true rfl) (by decide) rfl (by decide) rfl (fun r F' h' hq1 => ?_)
  obtain ⟨rfl, r1, rfl, e9, hh⟩ := hq1
  subst h'
  refine A_blk hM.1 1 (lv1 := [some (aR 150), some (aI v1)]) (s1 := [aI 38, aI r1]) (h1 := x) rfl ?_
  refine A_icmp hM.1 rfl rfl (fun hc => ?_) (fun hc => ?_)
  · replace hh := OK_t hh hc
    exact c_X12_joins_j10 hM v1 x hin hout0 hh
  · replace hh := OK_f hh hc
    refine A_blk hM.1 1 (lv1 := [some (aR 150), some (aI v1)]) (s1 := [aI v1]) (h1 := x) rfl ?_
    refine A_ifc hM.1 rfl rfl (fun hc => ?_) (fun hc => ?_)
    · replace hh := OK_t hh hc
      refine A_mask [false, false] (lv1 := [none, none]) rfl ?_
      exact hout0 x hh
    · replace hh := OK_f hh hc
      refine A_blk hM.1 1 (lv1 := [some (aR 150), some (aI v1)]) (s1 := [aR 150]) (h1 := x) rfl ?_
      refine A_callV hM rfl rfl (mem_GW 2007 (by decide +kernel) rfl) mi_X12_top (As := []) (rest := []) (ct_X12_top x (OK_bind hh)) (by decide) ⟨Nat.zero_le _, Nat.zero_le _⟩ rfl rfl (Nat.le_of_ble_eq_true rfl) (by decide) rfl (by decide) rfl (fun r F' h' hq1 => ?_)
      obtain ⟨rfl, r4, rfl, e9, hh⟩ := hq1
      subst h'
      refine A_blk hM.1 1 (lv1 := [some (aR 150), some (aI v1)]) (s1 := [aI 124, aI r4]) (h1 := x) rfl ?_
      refine A_icmp hM.1 rfl rfl (fun hc => ?_) (fun hc => ?_)
      · replace hh := OK_t hh hc
        refine A_mask [false, false] (lv1 := [none, none]) rfl ?_
        exact hout0 x hh
      · replace hh := OK_f hh hc
        exact c_X12_joins_j10 hM v1 x hin hout0 hh

set_option maxRecDepth 20000 in
set_option maxHeartbeats 4000000 in
theorem c_X12_joins {k0 : K0} {G : Gx} {Qp : Option AV → Fx → Hp → Prop} (hM : MB (KM k0 0 0 Qp) G M_X12_joins 3) (v1 : Int) (h : Hp)   {P : Hp → Prop} (hq : ∀ z : Hp, P z → Qp none FN z) (hh : OK (X12_joins v1 h) P) : ATk (KM k0 0 0 Qp) FN 0 0 M_X12_joins 0 [some (aR 150), some (aI v1)] [] h := by
  unfold X12_joins at hh
  refine iter_ok (s := h) (Gp := fun z => ATk (KM k0 0 0 Qp) FN 0 0 M_X12_joins 0 [some (aR 150), some (aI v1)] [] z) (E := fun z => ATk (KM k0 0 0 Qp) FN 0 0 M_X12_joins 22 [none, none] [] z) (fun z P1 g1 g2 g3 => c_X12_joins_l0 hM v1 z g2 g3 g1) (OK_bind hh) (fun x5 hh => ?_)
  exact A_retv hM.1 rfl rfl rfl (hq x5 hh)

set_option maxRecDepth 20000 in
set_option maxHeartbeats 4000000 in
theorem ct_X12_joins {G : Gx} (v1 : Int) (h : Hp)   {P : Hp → Prop} (hh : OK (X12_joins v1 h) P) : CT G yX12_joins M_X12_joins 3 0 0 FN h [aR 150, aI v1] (fun r F' h' => F' = FN ∧ r = none ∧ P h') :=
  CT.of (by decide +kernel) rfl (Nat.le_of_ble_eq_true rfl) k_X12_joins fun k0 _ _ hM => c_X12_joins hM v1 h (fun z hz => ⟨rfl, rfl, hz⟩) hh

theorem mi_X12_ends : MIv yX12_ends M_X12_ends 0 := ⟨⟨(mem_GW 2025 (by decide +kernel) rfl), (mem_GW 135 (by decide +kernel) rfl), by decide +kernel, by decide +kernel, by decide +kernel, by decide⟩, (mem_GW 2024 (by decide +kernel) rfl), (mem_GW 78 (by decide +kernel) rfl)⟩
set_option maxRecDepth 20000 in
set_option maxHeartbeats 4000000 in
theorem c_X12_ends_l0 {k0 : K0} {G : Gx} {Qp : Option AV → Fx → Hp → Prop} (hM : MB (KM k0 0 0 Qp) G M_X12_ends 3) (x : Hp)   {P : ((Hp) ⊕ (Hp)) → Prop} (hin : ∀ y : Hp, P (.inl y) → ATk (KM k0 0 0 Qp) FN 0 0 M_X12_ends 0 [some (aR 150)] [] y) (hout0 : ∀ y : Hp, P (.inr y) → ATk (KM k0 0 0 Qp) FN 0 0 M_X12_ends 21 [none] [] y) (hh : OK (X12_ends_l0 x) P) : ATk (KM k0 0 0 Qp) FN 0 0 M_X12_ends 0 [some (aR 150)] [] x := by
  unfold X12_ends_l0 at hh
  refine A_blk hM.1 1 (lv1 := [some (aR 150)]) (s1 := [aR 150]) (h1 := x) rfl ?_
  refine A_callV hM rfl rfl (mem_GW 2007 (by decide +kernel) rfl) mi_X12_top (As := []) (rest := []) (ct_X12_top x (OK_bind hh)) (by decide) ⟨Nat.zero_le _, Nat.zero_le _⟩ rfl rfl (Nat.le_of_ble_eq_true rfl) (by decide) rfl (by decide) rfl (fun r F' h' hq1 => ?_)
  obtain ⟨rfl, r1, rfl, e9, hh⟩ := hq1
  subst h'
  refine A_blk hM.1 1 (lv1 := [some (aR 150)]) (s1 := [aI 33, aI r1]) (h1 := x) rfl ?_
  refine A_icmp hM.1 rfl rfl (fun hc => ?_) (fun hc => ?_)
  · replace hh := OK_t hh hc
    refine A_mask [false] (lv1 := [none]) rfl ?_
    exact hout0 x hh
  · replace hh := OK_f hh hc
    refine A_blk hM.1 3 (lv1 := [some (aR 150)]) (s1 := [aI 0, aI 2, aR 150]) (h1 := x) rfl ?_
    refine A_callV hM rfl rfl (mem_GW 1986 (by decide +kernel) rfl) mi_X12_emit (As := [aI 2, aI 0]) (rest := []) (ct_X12_emit 2 0 x (OK_bind hh)) (by decide) ⟨Nat.zero_le _, Nat.zero_le _⟩ rfl rfl (Nat.le_of_ble_eq_true rfl) (by decide) rfl (by decide) rfl (fun r F' h' hq1 => ?_)
    obtain ⟨rfl, rfl, hh⟩ := hq1
    obtain ⟨r2, rfl⟩ : ∃ z, z = h' := ⟨_, rfl⟩
    refine A_blk hM.1 12 (lv1 := [some (aR 150)]) (s1 := []) (h1 := setH (setH r2 150 40 ((r2 150 40) - 1)) 150 39 ((r2 150 39) - 1)) rfl ?_
    refine A_go hM.1 rfl rfl ?_
    exact hin (setH (setH r2 150 40 ((r2 150 40) - 1)) 150 39 ((r2 150 39) - 1)) hh

set_option maxRecDepth 20000 in
set_option maxHeartbeats 4000000 in
theorem c_X12_ends {k0 : K0} {G : Gx} {Qp : Option AV → Fx → Hp → Prop} (hM : MB (KM k0 0 0 Qp) G M_X12_ends 3) (h : Hp)   {P : Hp → Prop} (hq : ∀ z : Hp, P z → Qp none FN z) (hh : OK (X12_ends h) P) : ATk (KM k0 0 0 Qp) FN 0 0 M_X12_ends 0 [some (aR 150)] [] h := by
  unfold X12_ends at hh
  refine iter_ok (s := h) (Gp := fun z => ATk (KM k0 0 0 Qp) FN 0 0 M_X12_ends 0 [some (aR 150)] [] z) (E := fun z => ATk (KM k0 0 0 Qp) FN 0 0 M_X12_ends 21 [none] [] z) (fun z P1 g1 g2 g3 => c_X12_ends_l0 hM  z g2 g3 g1) (OK_bind hh) (fun x3 hh => ?_)
  exact A_retv hM.1 rfl rfl rfl (hq x3 hh)

set_option maxRecDepth 20000 in
set_option maxHeartbeats 4000000 in
theorem ct_X12_ends {G : Gx} (h : Hp)   {P : Hp → Prop} (hh : OK (X12_ends h) P) : CT G yX12_ends M_X12_ends 3 0 0 FN h [aR 150] (fun r F' h' => F' = FN ∧ r = none ∧ P h') :=
  CT.of (by decide +kernel) rfl (Nat.le_of_ble_eq_true rfl) k_X12_ends fun k0 _ _ hM => c_X12_ends hM h (fun z hz => ⟨rfl, rfl, hz⟩) hh

theorem mi_X12_factor : MIv yX12_factor M_X12_factor 0 := ⟨⟨(mem_GW 1967 (by decide +kernel) rfl), (mem_GW 135 (by decide +kernel) rfl), by decide +kernel, by decide +kernel, by decide +kernel, by decide⟩, (mem_GW 1966 (by decide +kernel) rfl), (mem_GW 67 (by decide +kernel) rfl)⟩
set_option maxRecDepth 20000 in
set_option maxHeartbeats 4000000 in
theorem c_X12_factor_l0 {k0 : K0} {G : Gx} {Qp : Option AV → Fx → Hp → Prop} (hM : MB (KM k0 0 0 Qp) G M_X12_factor 4) (x : Hp)   {P : ((Hp) ⊕ (Hp)) → Prop} (hin : ∀ y : Hp, P (.inl y) → ATk (KM k0 0 0 Qp) FN 0 0 M_X12_factor 0 [some (aR 150)] [] y) (hout0 : ∀ y : Hp, P (.inr y) → ATk (KM k0 0 0 Qp) FN 0 0 M_X12_factor 10 [some (aR 150)] [] y) (hh : OK (X12_factor_l0 x) P) : ATk (KM k0 0 0 Qp) FN 0 0 M_X12_factor 0 [some (aR 150)] [] x := by
  unfold X12_factor_l0 at hh
  refine A_blk hM.1 1 (lv1 := [some (aR 150)]) (s1 := [aR 150]) (h1 := x) rfl ?_
  refine A_callV hM rfl rfl (mem_GW 1941 (by decide +kernel) rfl) mi_X12_isGood (As := []) (rest := []) (ct_X12_isGood x (OK_bind hh)) (by decide) ⟨Nat.zero_le _, Nat.zero_le _⟩ rfl rfl (Nat.le_of_ble_eq_true rfl) (by decide) rfl (by decide) rfl (fun r F' h' hq1 => ?_)
  obtain ⟨rfl, r1, rfl, e9, hh⟩ := hq1
  subst h'
  refine A_ifc hM.1 rfl rfl (fun hc => ?_) (fun hc => ?_)
  · replace hh := OK_t hh hc
    exact hout0 x hh
  · replace hh := OK_f hh hc
    refine A_blk hM.1 1 (lv1 := [some (aR 150)]) (s1 := [aR 150]) (h1 := x) rfl ?_
    refine A_callV hM rfl rfl (mem_GW 1949 (by decide +kernel) rfl) mi_X12_here (As := []) (rest := []) (ct_X12_here x (OK_bind hh)) (by decide) ⟨Nat.zero_le _, Nat.zero_le _⟩ rfl rfl (Nat.le_of_ble_eq_true rfl) (by decide) rfl (by decide) rfl (fun r F' h' hq1 => ?_)
    obtain ⟨rfl, r2, rfl, e9, hh⟩ := hq1
    subst h'
    refine A_blk hM.1 1 (lv1 := [some (aR 150)]) (s1 := [aI 91, aI r2]) (h1 := x) rfl ?_
    refine A_icmp hM.1 rfl rfl (fun hc => ?_) (fun hc => ?_)
    · replace hh := OK_t hh hc
      exact hout0 x hh
    · replace hh := OK_f hh hc
      refine A_blk hM.1 1 (lv1 := [some (aR 150)]) (s1 := [aR 150]) (h1 := x) rfl ?_
      refine A_callV hM rfl rfl (mem_GW 1968 (by decide +kernel) rfl) mi_X12_opens (As := []) (rest := []) (ct_X12_opens x (OK_bind hh)) (by decide) ⟨Nat.zero_le _, Nat.zero_le _⟩ rfl rfl (Nat.le_of_ble_eq_true rfl) (by decide) rfl (by decide) rfl (fun r F' h' hq1 => ?_)
      obtain ⟨rfl, rfl, hh⟩ := hq1
      obtain ⟨r3, rfl⟩ : ∃ z, z = h' := ⟨_, rfl⟩
      refine A_go hM.1 rfl rfl ?_
      exact hin r3 hh

set_option maxRecDepth 20000 in
set_option maxHeartbeats 4000000 in
theorem c_X12_factor {k0 : K0} {G : Gx} {Qp : Option AV → Fx → Hp → Prop} (hM : MB (KM k0 0 0 Qp) G M_X12_factor 4) (h : Hp)   {P : Hp → Prop} (hq : ∀ z : Hp, P z → Qp none FN z) (hh : OK (X12_factor h) P) : ATk (KM k0 0 0 Qp) FN 0 0 M_X12_factor 0 [some (aR 150)] [] h := by
  unfold X12_factor at hh
  refine iter_ok (s := h) (Gp := fun z => ATk (KM k0 0 0 Qp) FN 0 0 M_X12_factor 0 [some (aR 150)] [] z) (E := fun z => ATk (KM k0 0 0 Qp) FN 0 0 M_X12_factor 10 [some (aR 150)] [] z) (fun z P1 g1 g2 g3 => c_X12_factor_l0 hM  z g2 g3 g1) (OK_bind hh) (fun x4 hh => ?_)
  refine A_blk hM.1 1 (lv1 := [some (aR 150)]) (s1 := [aR 150]) (h1 := x4) rfl ?_
  refine A_callV hM rfl rfl (mem_GW 1941 (by decide +kernel) rfl) mi_X12_isGood (As := []) (rest := []) (ct_X12_isGood x4 (OK_bind hh)) (by decide) ⟨Nat.zero_le _, Nat.zero_le _⟩ rfl rfl (Nat.le_of_ble_eq_true rfl) (by decide) rfl (by decide) rfl (fun r F' h' hq1 => ?_)
  obtain ⟨rfl, r5, rfl, e9, hh⟩ := hq1
  subst h'
  refine A_ifc hM.1 rfl rfl (fun hc => ?_) (fun hc => ?_)
  · replace hh := OK_t hh hc
    refine A_blk hM.1 1 (lv1 := [some (aR 150)]) (s1 := [aR 150]) (h1 := x4) rfl ?_
    refine A_callV hM rfl rfl (mem_GW 1976 (by decide +kernel) rfl) mi_X12_seesDigit (As := []) (rest := []) (ct_X12_seesDigit x4 (OK_bind hh)) (by decide) ⟨Nat.zero_le _, Nat.zero_le _⟩ rfl rfl (Nat.le_of_ble_eq_true rfl) (by decide) rfl (by decide) rfl (fun r F' h' hq1 => ?_)
    obtain ⟨rfl, r6, rfl, e9, hh⟩ := hq1
    subst h'
    refine A_ifc hM.1 rfl rfl (fun hc => ?_) (fun hc => ?_)
    · replace hh := OK_t hh hc
      refine A_blk hM.1 1 (lv1 := [some (aR 150)]) (s1 := [aR 150]) (h1 := x4) rfl ?_
      refine A_callV hM rfl rfl (mem_GW 1949 (by decide +kernel) rfl) mi_X12_here (As := []) (rest := []) (ct_X12_here x4 (OK_bind hh)) (by decide) ⟨Nat.zero_le _, Nat.zero_le _⟩ rfl rfl (Nat.le_of_ble_eq_true rfl) (by decide) rfl (by decide) rfl (fun r F' h' hq1 => ?_)
      obtain ⟨rfl, r7, rfl, e9, hh⟩ := hq1
      subst h'
      refine A_callS hM rfl rfl (mem_GW 1990 (by decide +kernel) rfl) mi_X12_isValue ms_X12_isValue (As := [aI r7]) (rest := []) (ct_X12_isValue r7 x4 (OK_bind hh)) (by decide) ⟨Nat.zero_le _, Nat.zero_le _⟩ rfl rfl (Nat.le_of_ble_eq_true rfl) (fun r F' h' hq1 => ?_)
      obtain ⟨rfl, r8, rfl, e9, hh⟩ := hq1
      subst h'
      refine A_ifc hM.1 rfl rfl (fun hc => ?_) (fun hc => ?_)
      · replace hh := OK_t hh hc
        refine A_blk hM.1 4 (lv1 := [some (aR 150)]) (s1 := [aI (x4 150 34), aI 1, aR 150]) (h1 := x4) rfl ?_
        refine A_callV hM rfl rfl (mem_GW 1956 (by decide +kernel) rfl) mi_X12_wrongs (As := [aI 1, aI (x4 150 34)]) (rest := []) (ct_X12_wrongs 1 (x4 150 34) x4 (OK_bind hh)) (by decide) ⟨Nat.zero_le _, Nat.zero_le _⟩ rfl rfl (Nat.le_of_ble_eq_true rfl) (by decide) rfl (by decide) rfl (fun r F' h' hq1 => ?_)
        obtain ⟨rfl, rfl, hh⟩ := hq1
        obtain ⟨r9, rfl⟩ : ∃ z, z = h' := ⟨_, rfl⟩
        exact A_retv hM.1 rfl rfl rfl (hq r9 hh)
      · replace hh := OK_f hh hc
        refine A_blk hM.1 3 (lv1 := [some (aR 150)]) (s1 := [aR 150, aI 1, aR 150]) (h1 := x4) rfl ?_
        refine A_callV hM rfl rfl (mem_GW 1949 (by decide +kernel) rfl) mi_X12_here (As := []) (rest := [aI 1, aR 150]) (ct_X12_here x4 (OK_bind hh)) (by decide) ⟨Nat.zero_le _, Nat.zero_le _⟩ rfl rfl (Nat.le_of_ble_eq_true rfl) (by decide) rfl (by decide) rfl (fun r F' h' hq1 => ?_)
        obtain ⟨rfl, r10, rfl, e9, hh⟩ := hq1
        subst h'
        refine A_callV hM rfl rfl (mem_GW 1986 (by decide +kernel) rfl) mi_X12_emit (As := [aI 1, aI r10]) (rest := []) (ct_X12_emit 1 r10 x4 (OK_bind hh)) (by decide) ⟨Nat.zero_le _, Nat.zero_le _⟩ rfl rfl (Nat.le_of_ble_eq_true rfl) (by decide) rfl (by decide) rfl (fun r F' h' hq1 => ?_)
        obtain ⟨rfl, rfl, hh⟩ := hq1
        obtain ⟨r11, rfl⟩ : ∃ z, z = h' := ⟨_, rfl⟩
        refine A_blk hM.1 6 (lv1 := [some (aR 150)]) (s1 := []) (h1 := setH r11 150 34 ((r11 150 34) + 1)) rfl ?_
        refine A_go hM.1 rfl rfl ?_
        exact A_retv hM.1 rfl rfl rfl (hq (setH r11 150 34 ((r11 150 34) + 1)) hh)
    · replace hh := OK_f hh hc
      refine A_blk hM.1 3 (lv1 := [some (aR 150)]) (s1 := [aR 150, aI 0, aR 150]) (h1 := x4) rfl ?_
      refine A_callV hM rfl rfl (mem_GW 1982 (by decide +kernel) rfl) mi_X12_reads (As := []) (rest := [aI 0, aR 150]) (ct_X12_reads x4 (OK_bind hh)) (by decide) ⟨Nat.zero_le _, Nat.zero_le _⟩ rfl rfl (Nat.le_of_ble_eq_true rfl) (by decide) rfl (by decide) rfl (fun r F' h' hq1 => ?_)
      obtain ⟨rfl, r12, rfl, e9, hh⟩ := hq1
      subst h'
      refine A_callV hM rfl rfl (mem_GW 1986 (by decide +kernel) rfl) mi_X12_emit (As := [aI 0, aI r12.1]) (rest := []) (ct_X12_emit 0 r12.1 r12.2 (OK_bind hh)) (by decide) ⟨Nat.zero_le _, Nat.zero_le _⟩ rfl rfl (Nat.le_of_ble_eq_true rfl) (by decide) rfl (by decide) rfl (fun r F' h' hq1 => ?_)
      obtain ⟨rfl, rfl, hh⟩ := hq1
      obtain ⟨r13, rfl⟩ : ∃ z, z = h' := ⟨_, rfl⟩
      refine A_go hM.1 rfl rfl ?_
      exact A_retv hM.1 rfl rfl rfl (hq r13 hh)
  · replace hh := OK_f hh hc
    exact A_retv hM.1 rfl rfl rfl (hq x4 hh)

set_option maxRecDepth 20000 in
set_option maxHeartbeats 4000000 in
theorem ct_X12_factor {G : Gx} (h : Hp)   {P : Hp → Prop} (hh : OK (X12_factor h) P) : CT G yX12_factor M_X12_factor 4 0 0 FN h [aR 150] (fun r F' h' => F' = FN ∧ r = none ∧ P h') :=
  CT.of (by decide +kernel) rfl (Nat.le_of_ble_eq_true rfl) k_X12_factor fun k0 _ _ hM => c_X12_factor hM h (fun z hz => ⟨rfl, rfl, hz⟩) hh

theorem mi_X12_stays : MIv yX12_stays M_X12_stays 0 := ⟨⟨(mem_GW 1996 (by decide +kernel) rfl), (mem_GW 135 (by decide +kernel) rfl), by decide +kernel, by decide +kernel, by decide +kernel, by decide⟩, (mem_GW 1995 (by decide +kernel) rfl), (mem_GW 73 (by decide +kernel) rfl)⟩
set_option maxRecDepth 20000 in
set_option maxHeartbeats 4000000 in
theorem c_X12_stays_j9 {k0 : K0} {G : Gx} {Qp : Option AV → Fx → Hp → Prop} (hM : MB (KM k0 0 0 Qp) G M_X12_stays 4) (v1 : Int) (h : Hp)   {P : (Int × Hp) → Prop} (hq : ∀ z : Int × Hp, P z → Qp (some (aI z.1)) FN z.2) (hh : OK (X12_stays_j9 v1 h) P) : ATk (KM k0 0 0 Qp) FN 0 0 M_X12_stays 9 [some (aR 150), some (aI v1)] [] h := by
  unfold X12_stays_j9 at hh
  refine A_blk hM.1 2 (lv1 := [some (aR 150), some (aI v1)]) (s1 := [aI v1, aR 150]) (h1 := h) rfl ?_
  refine A_callS hM rfl rfl (mem_GW 2000 (by decide +kernel) rfl) mi_X12_isPlus ms_X12_isPlus (As := [aI v1]) (rest := [aR 150]) (ct_X12_isPlus v1 h (OK_bind hh)) (by decide) ⟨Nat.zero_le _, Nat.zero_le _⟩ rfl rfl (Nat.le_of_ble_eq_true rfl) (fun r F' h' hq1 => ?_)
  obtain ⟨rfl, r3, rfl, e9, hh⟩ := hq1
  subst h'
  refine A_callV hM rfl rfl (mem_GW 2003 (by decide +kernel) rfl) mi_X12_sums (As := [aI r3]) (rest := []) (ct_X12_sums r3 h (OK_bind hh)) (by decide) ⟨Nat.zero_le _, Nat.zero_le _⟩ rfl rfl (Nat.le_of_ble_eq_true rfl) (by decide) rfl (by decide) rfl (fun r F' h' hq1 => ?_)
  obtain ⟨rfl, rfl, hh⟩ := hq1
  obtain ⟨r4, rfl⟩ : ∃ z, z = h' := ⟨_, rfl⟩
  refine A_blk hM.1 2 (lv1 := [some (aR 150), some (aI v1)]) (s1 := [aI v1, aR 150]) (h1 := r4) rfl ?_
  refine A_callV hM rfl rfl (mem_GW 1972 (by decide +kernel) rfl) mi_X12_puts (As := [aI v1]) (rest := []) (ct_X12_puts v1 r4 (OK_bind hh)) (by decide) ⟨Nat.zero_le _, Nat.zero_le _⟩ rfl rfl (Nat.le_of_ble_eq_true rfl) (by decide) rfl (by decide) rfl (fun r F' h' hq1 => ?_)
  obtain ⟨rfl, rfl, hh⟩ := hq1
  obtain ⟨r5, rfl⟩ : ∃ z, z = h' := ⟨_, rfl⟩
  refine A_blk hM.1 1 (lv1 := [some (aR 150), some (aI v1)]) (s1 := [aI 1]) (h1 := r5) rfl ?_
  exact A_retz hM.1 rfl rfl rfl (by decide) (hq (1, r5) hh)

set_option maxRecDepth 20000 in
set_option maxHeartbeats 4000000 in
theorem c_X12_stays {k0 : K0} {G : Gx} {Qp : Option AV → Fx → Hp → Prop} (hM : MB (KM k0 0 0 Qp) G M_X12_stays 4) (h : Hp)   {P : (Int × Hp) → Prop} (hq : ∀ z : Int × Hp, P z → Qp (some (aI z.1)) FN z.2) (hh : OK (X12_stays h) P) : ATk (KM k0 0 0 Qp) FN 0 0 M_X12_stays 0 [some (aR 150), none] [] h := by
  unfold X12_stays at hh
  refine A_blk hM.1 1 (lv1 := [some (aR 150), none]) (s1 := [aR 150]) (h1 := h) rfl ?_
  refine A_callV hM rfl rfl (mem_GW 1949 (by decide +kernel) rfl) mi_X12_here (As := []) (rest := []) (ct_X12_here h (OK_bind hh)) (by decide) ⟨Nat.zero_le _, Nat.zero_le _⟩ rfl rfl (Nat.le_of_ble_eq_true rfl) (by decide) rfl (by decide) rfl (fun r F' h' hq1 => ?_)
  obtain ⟨rfl, r1, rfl, e9, hh⟩ := hq1
  subst h'
  refine A_blk hM.1 2 (lv1 := [some (aR 150), some (aI r1)]) (s1 := [aI r1]) (h1 := h) rfl ?_
  refine A_callS hM rfl rfl (mem_GW 1997 (by decide +kernel) rfl) mi_X12_isTimes ms_X12_isTimes (As := [aI r1]) (rest := []) (ct_X12_isTimes r1 h (OK_bind hh)) (by decide) ⟨Nat.zero_le _, Nat.zero_le _⟩ rfl rfl (Nat.le_of_ble_eq_true rfl) (fun r F' h' hq1 => ?_)
  obtain ⟨rfl, r2, rfl, e9, hh⟩ := hq1
  subst h'
  refine A_ifc hM.1 rfl rfl (fun hc => ?_) (fun hc => ?_)
  · replace hh := OK_t hh hc
    exact c_X12_stays_j9 hM r1 h hq hh
  · replace hh := OK_f hh hc
    refine A_blk hM.1 1 (lv1 := [some (aR 150), some (aI r1)]) (s1 := [aI r1]) (h1 := h) rfl ?_
    refine A_callS hM rfl rfl (mem_GW 2000 (by decide +kernel) rfl) mi_X12_isPlus ms_X12_isPlus (As := [aI r1]) (rest := []) (ct_X12_isPlus r1 h (OK_bind hh)) (by decide) ⟨Nat.zero_le _, Nat.zero_le _⟩ rfl rfl (Nat.le_of_ble_eq_true rfl) (fun r F' h' hq1 => ?_)
    obtain ⟨rfl, r6, rfl, e9, hh⟩ := hq1
    subst h'
    refine A_ifc hM.1 rfl rfl (fun hc => ?_) (fun hc => ?_)
    · replace hh := OK_t hh hc
      refine A_blk hM.1 2 (lv1 := [some (aR 150), some (aI r1)]) (s1 := [aI 1, aR 150]) (h1 := h) rfl ?_
      refine A_callV hM rfl rfl (mem_GW 2003 (by decide +kernel) rfl) mi_X12_sums (As := [aI 1]) (rest := []) (ct_X12_sums 1 h (OK_bind hh)) (by decide) ⟨Nat.zero_le _, Nat.zero_le _⟩ rfl rfl (Nat.le_of_ble_eq_true rfl) (by decide) rfl (by decide) rfl (fun r F' h' hq1 => ?_)
      obtain ⟨rfl, rfl, hh⟩ := hq1
      obtain ⟨r7, rfl⟩ : ∃ z, z = h' := ⟨_, rfl⟩
      refine A_blk hM.1 2 (lv1 := [some (aR 150), some (aI r1)]) (s1 := [aI 93, aI r1]) (h1 := r7) rfl ?_
      refine A_icmp hM.1 rfl rfl (fun hc => ?_) (fun hc => ?_)
      · replace hh := OK_t hh hc
        refine A_blk hM.1 1 (lv1 := [some (aR 150), some (aI r1)]) (s1 := [aR 150]) (h1 := r7) rfl ?_
        refine A_callV hM rfl rfl (mem_GW 2007 (by decide +kernel) rfl) mi_X12_top (As := []) (rest := []) (ct_X12_top r7 (OK_bind hh)) (by decide) ⟨Nat.zero_le _, Nat.zero_le _⟩ rfl rfl (Nat.le_of_ble_eq_true rfl) (by decide) rfl (by decide) rfl (fun r F' h' hq1 => ?_)
        obtain ⟨rfl, r8, rfl, e9, hh⟩ := hq1
        subst h'
        refine A_blk hM.1 1 (lv1 := [some (aR 150), some (aI r1)]) (s1 := [aI 91, aI r8]) (h1 := r7) rfl ?_
        refine A_icmp hM.1 rfl rfl (fun hc => ?_) (fun hc => ?_)
        · replace hh := OK_t hh hc
          refine A_blk hM.1 20 (lv1 := [some (aR 150), some (aI r1)]) (s1 := [aI 1, aR 150]) (h1 := setH (setH (setH r7 150 40 ((r7 150 40) - 1)) 150 39 ((r7 150 39) - 1)) 150 34 ((r7 150 34) + 1)) rfl ?_
          refine A_putz hM.1 rfl rfl rfl (by decide) rfl rfl rfl (by decide) ?_
          refine A_blk hM.1 1 (lv1 := [some (aR 150), some (aI r1)]) (s1 := [aI 1]) (h1 := setH (setH (setH (setH r7 150 40 ((r7 150 40) - 1)) 150 39 ((r7 150 39) - 1)) 150 34 ((r7 150 34) + 1)) 150 42 1) rfl ?_
          exact A_retz hM.1 rfl rfl rfl (by decide) (hq (1, setH (setH (setH (setH r7 150 40 ((r7 150 40) - 1)) 150 39 ((r7 150 39) - 1)) 150 34 ((r7 150 34) + 1)) 150 42 1) hh)
        · replace hh := OK_f hh hc
          refine A_blk hM.1 4 (lv1 := [some (aR 150), some (aI r1)]) (s1 := [aI (r7 150 34), aI 1, aR 150]) (h1 := r7) rfl ?_
          refine A_callV hM rfl rfl (mem_GW 1956 (by decide +kernel) rfl) mi_X12_wrongs (As := [aI 1, aI (r7 150 34)]) (rest := []) (ct_X12_wrongs 1 (r7 150 34) r7 (OK_bind hh)) (by decide) ⟨Nat.zero_le _, Nat.zero_le _⟩ rfl rfl (Nat.le_of_ble_eq_true rfl) (by decide) rfl (by decide) rfl (fun r F' h' hq1 => ?_)
          obtain ⟨rfl, rfl, hh⟩ := hq1
          obtain ⟨r9, rfl⟩ : ∃ z, z = h' := ⟨_, rfl⟩
          refine A_blk hM.1 1 (lv1 := [some (aR 150), some (aI r1)]) (s1 := [aI 0]) (h1 := r9) rfl ?_
          exact A_retz hM.1 rfl rfl rfl (by decide) (hq (0, r9) hh)
      · replace hh := OK_f hh hc
        refine A_blk hM.1 1 (lv1 := [some (aR 150), some (aI r1)]) (s1 := [aI 0]) (h1 := r7) rfl ?_
        exact A_retz hM.1 rfl rfl rfl (by decide) (hq (0, r7) hh)
    · replace hh := OK_f hh hc
      exact c_X12_stays_j9 hM r1 h hq hh

set_option maxRecDepth 20000 in
set_option maxHeartbeats 4000000 in
theorem ct_X12_stays {G : Gx} (h : Hp)   {P : (Int × Hp) → Prop} (hh : OK (X12_stays h) P) : CT G yX12_stays M_X12_stays 4 0 0 FN h [aR 150] (fun r F' h' => F' = FN ∧ ∃ z, r = some (aI z.1) ∧ h' = z.2 ∧ P z) :=
  CT.of (by decide +kernel) rfl (Nat.le_of_ble_eq_true rfl) k_X12_stays fun k0 _ _ hM => c_X12_stays hM h (fun z hz => ⟨rfl, z, rfl, rfl, hz⟩) hh

theorem mi_X12_value : MIv yX12_value M_X12_value 0 := ⟨⟨(mem_GW 1963 (by decide +kernel) rfl), (mem_GW 135 (by decide +kernel) rfl), by decide +kernel, by decide +kernel, by decide +kernel, by decide⟩, (mem_GW 1962 (by decide +kernel) rfl), (mem_GW 66 (by decide +kernel) rfl)⟩
set_option maxRecDepth 20000 in
set_option maxHeartbeats 4000000 in
theorem c_X12_value_j27 {k0 : K0} {G : Gx} {Qp : Option AV → Fx → Hp → Prop} (hM : MB (KM k0 0 0 Qp) G M_X12_value 5) (s0 : Int) (h : Hp)   {P : ((Int × Hp) ⊕ (Hp)) → Prop} (hin : ∀ y : Int × Hp, P (.inl y) → ATk (KM k0 0 0 Qp) FN 0 0 M_X12_value 5 [some (aR 150), some (aI y.1)] [] y.2) (hout0 : ∀ y : Hp, P (.inr y) → ATk (KM k0 0 0 Qp) FN 0 0 M_X12_value 29 [some (aR 150), none] [] y) (hh : OK (X12_value_j27 s0 h) P) : ATk (KM k0 0 0 Qp) FN 0 0 M_X12_value 27 [some (aR 150), none] [aI s0] h := by
  unfold X12_value_j27 at hh
  refine A_blk hM.1 1 (lv1 := [some (aR 150), some (aI s0)]) (s1 := []) (h1 := h) rfl ?_
  refine A_go hM.1 rfl rfl ?_
  exact hin (s0, h) hh

set_option maxRecDepth 20000 in
set_option maxHeartbeats 4000000 in
theorem c_X12_value_j26 {k0 : K0} {G : Gx} {Qp : Option AV → Fx → Hp → Prop} (hM : MB (KM k0 0 0 Qp) G M_X12_value 5) (h : Hp)   {P : ((Int × Hp) ⊕ (Hp)) → Prop} (hin : ∀ y : Int × Hp, P (.inl y) → ATk (KM k0 0 0 Qp) FN 0 0 M_X12_value 5 [some (aR 150), some (aI y.1)] [] y.2) (hout0 : ∀ y : Hp, P (.inr y) → ATk (KM k0 0 0 Qp) FN 0 0 M_X12_value 29 [some (aR 150), none] [] y) (hh : OK (X12_value_j26 h) P) : ATk (KM k0 0 0 Qp) FN 0 0 M_X12_value 26 [some (aR 150), none] [] h := by
  unfold X12_value_j26 at hh
  refine A_blk hM.1 1 (lv1 := [some (aR 150), none]) (s1 := [aI 0]) (h1 := h) rfl ?_
  exact c_X12_value_j27 hM 0 h hin hout0 hh

set_option maxRecDepth 20000 in
set_option maxHeartbeats 4000000 in
theorem c_X12_value_j15 {k0 : K0} {G : Gx} {Qp : Option AV → Fx → Hp → Prop} (hM : MB (KM k0 0 0 Qp) G M_X12_value 5) (h : Hp)   {P : ((Int × Hp) ⊕ (Hp)) → Prop} (hin : ∀ y : Int × Hp, P (.inl y) → ATk (KM k0 0 0 Qp) FN 0 0 M_X12_value 5 [some (aR 150), some (aI y.1)] [] y.2) (hout0 : ∀ y : Hp, P (.inr y) → ATk (KM k0 0 0 Qp) FN 0 0 M_X12_value 29 [some (aR 150), none] [] y) (hh : OK (X12_value_j15 h) P) : ATk (KM k0 0 0 Qp) FN 0 0 M_X12_value 15 [some (aR 150), none] [] h := by
  unfold X12_value_j15 at hh
  refine A_blk hM.1 2 (lv1 := [some (aR 150), none]) (s1 := [aI 0, aR 150]) (h1 := h) rfl ?_
  refine A_putz hM.1 rfl rfl rfl (by decide) rfl rfl rfl (by decide) ?_
  refine A_blk hM.1 1 (lv1 := [some (aR 150), none]) (s1 := [aR 150]) (h1 := setH h 150 42 0) rfl ?_
  refine A_callV hM rfl rfl (mem_GW 1941 (by decide +kernel) rfl) mi_X12_isGood (As := []) (rest := []) (ct_X12_isGood (setH h 150 42 0) (OK_bind hh)) (by decide) ⟨Nat.zero_le _, Nat.zero_le _⟩ rfl rfl (Nat.le_of_ble_eq_true rfl) (by decide) rfl (by decide) rfl (fun r F' h' hq1 => ?_)
  obtain ⟨rfl, r2, rfl, e9, hh⟩ := hq1
  subst h'
  refine A_ifc hM.1 rfl rfl (fun hc => ?_) (fun hc => ?_)
  · replace hh := OK_t hh hc
    exact c_X12_value_j26 hM (setH h 150 42 0) hin hout0 hh
  · replace hh := OK_f hh hc
    refine A_blk hM.1 1 (lv1 := [some (aR 150), none]) (s1 := [aR 150]) (h1 := setH h 150 42 0) rfl ?_
    refine A_callV hM rfl rfl (mem_GW 1993 (by decide +kernel) rfl) mi_X12_stays (As := []) (rest := []) (ct_X12_stays (setH h 150 42 0) (OK_bind hh)) (by decide) ⟨Nat.zero_le _, Nat.zero_le _⟩ rfl rfl (Nat.le_of_ble_eq_true rfl) (by decide) rfl (by decide) rfl (fun r F' h' hq1 => ?_)
    obtain ⟨rfl, r3, rfl, e9, hh⟩ := hq1
    subst h'
    refine A_ifc hM.1 rfl rfl (fun hc => ?_) (fun hc => ?_)
    · replace hh := OK_t hh hc
      exact c_X12_value_j26 hM r3.2 hin hout0 hh
    · replace hh := OK_f hh hc
      refine A_blk hM.1 1 (lv1 := [some (aR 150), none]) (s1 := [aI 1]) (h1 := r3.2) rfl ?_
      refine A_go hM.1 rfl rfl ?_
      exact c_X12_value_j27 hM 1 r3.2 hin hout0 hh

set_option maxRecDepth 20000 in
set_option maxHeartbeats 4000000 in
theorem c_X12_value_l5 {k0 : K0} {G : Gx} {Qp : Option AV → Fx → Hp → Prop} (hM : MB (KM k0 0 0 Qp) G M_X12_value 5) (x : Int × Hp)   {P : ((Int × Hp) ⊕ (Hp)) → Prop} (hin : ∀ y : Int × Hp, P (.inl y) → ATk (KM k0 0 0 Qp) FN 0 0 M_X12_value 5 [some (aR 150), some (aI y.1)] [] y.2) (hout0 : ∀ y : Hp, P (.inr y) → ATk (KM k0 0 0 Qp) FN 0 0 M_X12_value 29 [some (aR 150), none] [] y) (hh : OK (X12_value_l5 x) P) : ATk (KM k0 0 0 Qp) FN 0 0 M_X12_value 5 [some (aR 150), some (aI x.1)] [] x.2 := by
  unfold X12_value_l5 at hh
  refine A_blk hM.1 1 (lv1 := [some (aR 150), some (aI x.1)]) (s1 := [aI x.1]) (h1 := x.2) rfl ?_
  refine A_ifc hM.1 rfl rfl (fun hc => ?_) (fun hc => ?_)
  · replace hh := OK_t hh hc
    refine A_mask [true, false] (lv1 := [some (aR 150), none]) rfl ?_
    exact hout0 x.2 hh
  · replace hh := OK_f hh hc
    refine A_blk hM.1 1 (lv1 := [some (aR 150), some (aI x.1)]) (s1 := [aR 150]) (h1 := x.2) rfl ?_
    refine A_callV hM rfl rfl (mem_GW 1941 (by decide +kernel) rfl) mi_X12_isGood (As := []) (rest := []) (ct_X12_isGood x.2 (OK_bind hh)) (by decide) ⟨Nat.zero_le _, Nat.zero_le _⟩ rfl rfl (Nat.le_of_ble_eq_true rfl) (by decide) rfl (by decide) rfl (fun r F' h' hq1 => ?_)
    obtain ⟨rfl, r1, rfl, e9, hh⟩ := hq1
    subst h'
    refine A_ifc hM.1 rfl rfl (fun hc => ?_) (fun hc => ?_)
    · replace hh := OK_t hh hc
      refine A_mask [true, false] (lv1 := [some (aR 150), none]) rfl ?_
      exact hout0 x.2 hh
    · replace hh := OK_f hh hc
      refine A_blk hM.1 2 (lv1 := [some (aR 150), some (aI x.1)]) (s1 := [aI (x.2 150 42)]) (h1 := x.2) rfl ?_
      refine A_ifc hM.1 rfl rfl (fun hc => ?_) (fun hc => ?_)
      · replace hh := OK_t hh hc
        refine A_mask [true, false] (lv1 := [some (aR 150), none]) rfl ?_
        exact c_X12_value_j15 hM x.2 hin hout0 hh
      · replace hh := OK_f hh hc
        refine A_blk hM.1 1 (lv1 := [some (aR 150), some (aI x.1)]) (s1 := [aR 150]) (h1 := x.2) rfl ?_
        refine A_callV hM rfl rfl (mem_GW 1964 (by decide +kernel) rfl) mi_X12_factor (As := []) (rest := []) (ct_X12_factor x.2 (OK_bind hh)) (by decide) ⟨Nat.zero_le _, Nat.zero_le _⟩ rfl rfl (Nat.le_of_ble_eq_true rfl) (by decide) rfl (by decide) rfl (fun r F' h' hq1 => ?_)
        obtain ⟨rfl, rfl, hh⟩ := hq1
        obtain ⟨r4, rfl⟩ : ∃ z, z = h' := ⟨_, rfl⟩
        refine A_mask [true, false] (lv1 := [some (aR 150), none]) rfl ?_
        exact c_X12_value_j15 hM r4 hin hout0 hh

set_option maxRecDepth 20000 in
set_option maxHeartbeats 4000000 in
theorem c_X12_value {k0 : K0} {G : Gx} {Qp : Option AV → Fx → Hp → Prop} (hM : MB (KM k0 0 0 Qp) G M_X12_value 5) (h : Hp)   {P : Hp → Prop} (hq : ∀ z : Hp, P z → Qp none FN z) (hh : OK (X12_value h) P) : ATk (KM k0 0 0 Qp) FN 0 0 M_X12_value 0 [some (aR 150), none] [] h := by
  unfold X12_value at hh
  refine A_blk hM.1 4 (lv1 := [some (aR 150), some (aI 1)]) (s1 := [aI 0, aR 150]) (h1 := h) rfl ?_
  refine A_putz hM.1 rfl rfl rfl (by decide) rfl rfl rfl (by decide) ?_
  refine iter_ok (s := (1, setH h 150 42 0)) (Gp := fun z => ATk (KM k0 0 0 Qp) FN 0 0 M_X12_value 5 [some (aR 150), some (aI z.1)] [] z.2) (E := fun z => ATk (KM k0 0 0 Qp) FN 0 0 M_X12_value 29 [some (aR 150), none] [] z) (fun z P1 g1 g2 g3 => c_X12_value_l5 hM  z g2 g3 g1) (OK_bind hh) (fun x5 hh => ?_)
  refine A_blk hM.1 1 (lv1 := [some (aR 150), none]) (s1 := [aR 150]) (h1 := x5) rfl ?_
  refine A_callV hM rfl rfl (mem_GW 1941 (by decide +kernel) rfl) mi_X12_isGood (As := []) (rest := []) (ct_X12_isGood x5 (OK_bind hh)) (by decide) ⟨Nat.zero_le _, Nat.zero_le _⟩ rfl rfl (Nat.le_of_ble_eq_true rfl) (by decide) rfl (by decide) rfl (fun r F' h' hq1 => ?_)
  obtain ⟨rfl, r6, rfl, e9, hh⟩ := hq1
  subst h'
  refine A_ifc hM.1 rfl rfl (fun hc => ?_) (fun hc => ?_)
  · replace hh := OK_t hh hc
    exact A_retv hM.1 rfl rfl rfl (hq x5 hh)
  · replace hh := OK_f hh hc
    refine A_blk hM.1 1 (lv1 := [some (aR 150), none]) (s1 := [aR 150]) (h1 := x5) rfl ?_
    refine A_callV hM rfl rfl (mem_GW 2007 (by decide +kernel) rfl) mi_X12_top (As := []) (rest := []) (ct_X12_top x5 (OK_bind hh)) (by decide) ⟨Nat.zero_le _, Nat.zero_le _⟩ rfl rfl (Nat.le_of_ble_eq_true rfl) (by decide) rfl (by decide) rfl (fun r F' h' hq1 => ?_)
    obtain ⟨rfl, r7, rfl, e9, hh⟩ := hq1
    subst h'
    refine A_blk hM.1 1 (lv1 := [some (aR 150), none]) (s1 := [aI 91, aI r7]) (h1 := x5) rfl ?_
    refine A_icmp hM.1 rfl rfl (fun hc => ?_) (fun hc => ?_)
    · replace hh := OK_t hh hc
      exact A_retv hM.1 rfl rfl rfl (hq x5 hh)
    · replace hh := OK_f hh hc
      refine A_blk hM.1 4 (lv1 := [some (aR 150), none]) (s1 := [aI (x5 150 34), aI 1, aR 150]) (h1 := x5) rfl ?_
      refine A_callV hM rfl rfl (mem_GW 1956 (by decide +kernel) rfl) mi_X12_wrongs (As := [aI 1, aI (x5 150 34)]) (rest := []) (ct_X12_wrongs 1 (x5 150 34) x5 (OK_bind hh)) (by decide) ⟨Nat.zero_le _, Nat.zero_le _⟩ rfl rfl (Nat.le_of_ble_eq_true rfl) (by decide) rfl (by decide) rfl (fun r F' h' hq1 => ?_)
      obtain ⟨rfl, rfl, hh⟩ := hq1
      obtain ⟨r8, rfl⟩ : ∃ z, z = h' := ⟨_, rfl⟩
      exact A_retv hM.1 rfl rfl rfl (hq r8 hh)

set_option maxRecDepth 20000 in
set_option maxHeartbeats 4000000 in
theorem ct_X12_value {G : Gx} (h : Hp)   {P : Hp → Prop} (hh : OK (X12_value h) P) : CT G yX12_value M_X12_value 5 0 0 FN h [aR 150] (fun r F' h' => F' = FN ∧ r = none ∧ P h') :=
  CT.of (by decide +kernel) rfl (Nat.le_of_ble_eq_true rfl) k_X12_value fun k0 _ _ hM => c_X12_value hM h (fun z hz => ⟨rfl, rfl, hz⟩) hh

theorem mi_X12_pieceOfC : MIv yX12_pieceOfC M_X12_pieceOfC 0 := ⟨⟨(mem_GW 2018 (by decide +kernel) rfl), (mem_GW 135 (by decide +kernel) rfl), by decide +kernel, by decide +kernel, by decide +kernel, by decide⟩, (mem_GW 2017 (by decide +kernel) rfl), (mem_GW 77 (by decide +kernel) rfl)⟩
set_option maxRecDepth 20000 in
set_option maxHeartbeats 4000000 in
theorem c_X12_pieceOfC_j11 {k0 : K0} {G : Gx} {Qp : Option AV → Fx → Hp → Prop} (hM : MB (KM k0 0 0 Qp) G M_X12_pieceOfC 6) (h : Hp)   {P : ((Hp) ⊕ (Hp)) → Prop} (hin : ∀ y : Hp, P (.inl y) → ATk (KM k0 0 0 Qp) FN 0 0 M_X12_pieceOfC 0 [some (aR 150), none] [] y) (hout0 : ∀ y : Hp, P (.inr y) → ATk (KM k0 0 0 Qp) FN 0 0 M_X12_pieceOfC 14 [some (aR 150), none] [] y) (hh : OK (X12_pieceOfC_j11 h) P) : ATk (KM k0 0 0 Qp) FN 0 0 M_X12_pieceOfC 11 [some (aR 150), none] [] h := by
  unfold X12_pieceOfC_j11 at hh
  refine A_blk hM.1 1 (lv1 := [some (aR 150), none]) (s1 := [aR 150]) (h1 := h) rfl ?_
  refine A_callV hM rfl rfl (mem_GW 1968 (by decide +kernel) rfl) mi_X12_opens (As := []) (rest := []) (ct_X12_opens h (OK_bind hh)) (by decide) ⟨Nat.zero_le _, Nat.zero_le _⟩ rfl rfl (Nat.le_of_ble_eq_true rfl) (by decide) rfl (by decide) rfl (fun r F' h' hq1 => ?_)
  obtain ⟨rfl, rfl, hh⟩ := hq1
  obtain ⟨r3, rfl⟩ : ∃ z, z = h' := ⟨_, rfl⟩
  refine A_go hM.1 rfl rfl ?_
  exact hin r3 hh

set_option maxRecDepth 20000 in
set_option maxHeartbeats 4000000 in
theorem c_X12_pieceOfC_l0 {k0 : K0} {G : Gx} {Qp : Option AV → Fx → Hp → Prop} (hM : MB (KM k0 0 0 Qp) G M_X12_pieceOfC 6) (x : Hp)   {P : ((Hp) ⊕ (Hp)) → Prop} (hin : ∀ y : Hp, P (.inl y) → ATk (KM k0 0 0 Qp) FN 0 0 M_X12_pieceOfC 0 [some (aR 150), none] [] y) (hout0 : ∀ y : Hp, P (.inr y) → ATk (KM k0 0 0 Qp) FN 0 0 M_X12_pieceOfC 14 [some (aR 150), none] [] y) (hh : OK (X12_pieceOfC_l0 x) P) : ATk (KM k0 0 0 Qp) FN 0 0 M_X12_pieceOfC 0 [some (aR 150), none] [] x := by
  unfold X12_pieceOfC_l0 at hh
  refine A_blk hM.1 1 (lv1 := [some (aR 150), none]) (s1 := [aR 150]) (h1 := x) rfl ?_
  refine A_callV hM rfl rfl (mem_GW 1941 (by decide +kernel) rfl) mi_X12_isGood (As := []) (rest := []) (ct_X12_isGood x (OK_bind hh)) (by decide) ⟨Nat.zero_le _, Nat.zero_le _⟩ rfl rfl (Nat.le_of_ble_eq_true rfl) (by decide) rfl (by decide) rfl (fun r F' h' hq1 => ?_)
  obtain ⟨rfl, r1, rfl, e9, hh⟩ := hq1
  subst h'
  refine A_ifc hM.1 rfl rfl (fun hc => ?_) (fun hc => ?_)
  · replace hh := OK_t hh hc
    exact hout0 x hh
  · replace hh := OK_f hh hc
    refine A_blk hM.1 1 (lv1 := [some (aR 150), none]) (s1 := [aR 150]) (h1 := x) rfl ?_
    refine A_callV hM rfl rfl (mem_GW 1949 (by decide +kernel) rfl) mi_X12_here (As := []) (rest := []) (ct_X12_here x (OK_bind hh)) (by decide) ⟨Nat.zero_le _, Nat.zero_le _⟩ rfl rfl (Nat.le_of_ble_eq_true rfl) (by decide) rfl (by decide) rfl (fun r F' h' hq1 => ?_)
    obtain ⟨rfl, r2, rfl, e9, hh⟩ := hq1
    subst h'
    refine A_blk hM.1 1 (lv1 := [some (aR 150), none]) (s1 := [aI 33, aI r2]) (h1 := x) rfl ?_
    refine A_icmp hM.1 rfl rfl (fun hc => ?_) (fun hc => ?_)
    · replace hh := OK_t hh hc
      exact c_X12_pieceOfC_j11 hM x hin hout0 hh
    · replace hh := OK_f hh hc
      refine A_blk hM.1 1 (lv1 := [some (aR 150), none]) (s1 := [aR 150]) (h1 := x) rfl ?_
      refine A_callV hM rfl rfl (mem_GW 1949 (by decide +kernel) rfl) mi_X12_here (As := []) (rest := []) (ct_X12_here x (OK_bind hh)) (by decide) ⟨Nat.zero_le _, Nat.zero_le _⟩ rfl rfl (Nat.le_of_ble_eq_true rfl) (by decide) rfl (by decide) rfl (fun r F' h' hq1 => ?_)
      obtain ⟨rfl, r4, rfl, e9, hh⟩ := hq1
      subst h'
      refine A_blk hM.1 1 (lv1 := [some (aR 150), none]) (s1 := [aI 40, aI r4]) (h1 := x) rfl ?_
      refine A_icmp hM.1 rfl rfl (fun hc => ?_) (fun hc => ?_)
      · replace hh := OK_t hh hc
        exact hout0 x hh
      · replace hh := OK_f hh hc
        exact c_X12_pieceOfC_j11 hM x hin hout0 hh

set_option maxRecDepth 20000 in
set_option maxHeartbeats 4000000 in
theorem c_X12_pieceOfC_j19 {k0 : K0} {G : Gx} {Qp : Option AV → Fx → Hp → Prop} (hM : MB (KM k0 0 0 Qp) G M_X12_pieceOfC 6) (h : Hp)   {P : Hp → Prop} (hq : ∀ z : Hp, P z → Qp none FN z) (hh : OK (X12_pieceOfC_j19 h) P) : ATk (KM k0 0 0 Qp) FN 0 0 M_X12_pieceOfC 19 [some (aR 150), none] [] h := by
  unfold X12_pieceOfC_j19 at hh
  refine A_blk hM.1 1 (lv1 := [some (aR 150), none]) (s1 := [aR 150]) (h1 := h) rfl ?_
  refine A_callV hM rfl rfl (mem_GW 1941 (by decide +kernel) rfl) mi_X12_isGood (As := []) (rest := []) (ct_X12_isGood h (OK_bind hh)) (by decide) ⟨Nat.zero_le _, Nat.zero_le _⟩ rfl rfl (Nat.le_of_ble_eq_true rfl) (by decide) rfl (by decide) rfl (fun r F' h' hq1 => ?_)
  obtain ⟨rfl, r7, rfl, e9, hh⟩ := hq1
  subst h'
  refine A_ifc hM.1 rfl rfl (fun hc => ?_) (fun hc => ?_)
  · replace hh := OK_t hh hc
    refine A_blk hM.1 1 (lv1 := [some (aR 150), none]) (s1 := [aR 150]) (h1 := h) rfl ?_
    refine A_callV hM rfl rfl (mem_GW 1949 (by decide +kernel) rfl) mi_X12_here (As := []) (rest := []) (ct_X12_here h (OK_bind hh)) (by decide) ⟨Nat.zero_le _, Nat.zero_le _⟩ rfl rfl (Nat.le_of_ble_eq_true rfl) (by decide) rfl (by decide) rfl (fun r F' h' hq1 => ?_)
    obtain ⟨rfl, r8, rfl, e9, hh⟩ := hq1
    subst h'
    refine A_blk hM.1 2 (lv1 := [some (aR 150), some (aI r8)]) (s1 := [aI r8]) (h1 := h) rfl ?_
    refine A_callS hM rfl rfl (mem_GW 2019 (by decide +kernel) rfl) mi_X12_isSign ms_X12_isSign (As := [aI r8]) (rest := []) (ct_X12_isSign r8 h (OK_bind hh)) (by decide) ⟨Nat.zero_le _, Nat.zero_le _⟩ rfl rfl (Nat.le_of_ble_eq_true rfl) (fun r F' h' hq1 => ?_)
    obtain ⟨rfl, r9, rfl, e9, hh⟩ := hq1
    subst h'
    refine A_ifc hM.1 rfl rfl (fun hc => ?_) (fun hc => ?_)
    · replace hh := OK_t hh hc
      refine A_blk hM.1 2 (lv1 := [some (aR 150), some (aI r8)]) (s1 := [aI r8, aR 150]) (h1 := h) rfl ?_
      refine A_callV hM rfl rfl (mem_GW 1972 (by decide +kernel) rfl) mi_X12_puts (As := [aI r8]) (rest := []) (ct_X12_puts r8 h (OK_bind hh)) (by decide) ⟨Nat.zero_le _, Nat.zero_le _⟩ rfl rfl (Nat.le_of_ble_eq_true rfl) (by decide) rfl (by decide) rfl (fun r F' h' hq1 => ?_)
      obtain ⟨rfl, rfl, hh⟩ := hq1
      obtain ⟨r10, rfl⟩ : ∃ z, z = h' := ⟨_, rfl⟩
      refine A_blk hM.1 1 (lv1 := [some (aR 150), some (aI r8)]) (s1 := [aR 150]) (h1 := r10) rfl ?_
      refine A_callV hM rfl rfl (mem_GW 1960 (by decide +kernel) rfl) mi_X12_value (As := []) (rest := []) (ct_X12_value r10 (OK_bind hh)) (by decide) ⟨Nat.zero_le _, Nat.zero_le _⟩ rfl rfl (Nat.le_of_ble_eq_true rfl) (by decide) rfl (by decide) rfl (fun r F' h' hq1 => ?_)
      obtain ⟨rfl, rfl, hh⟩ := hq1
      obtain ⟨r11, rfl⟩ : ∃ z, z = h' := ⟨_, rfl⟩
      refine A_blk hM.1 1 (lv1 := [some (aR 150), some (aI r8)]) (s1 := [aR 150]) (h1 := r11) rfl ?_
      refine A_callV hM rfl rfl (mem_GW 1941 (by decide +kernel) rfl) mi_X12_isGood (As := []) (rest := []) (ct_X12_isGood r11 (OK_bind hh)) (by decide) ⟨Nat.zero_le _, Nat.zero_le _⟩ rfl rfl (Nat.le_of_ble_eq_true rfl) (by decide) rfl (by decide) rfl (fun r F' h' hq1 => ?_)
      obtain ⟨rfl, r12, rfl, e9, hh⟩ := hq1
      subst h'
      refine A_ifc hM.1 rfl rfl (fun hc => ?_) (fun hc => ?_)
      · replace hh := OK_t hh hc
        refine A_blk hM.1 2 (lv1 := [some (aR 150), some (aI r8)]) (s1 := [aR 150, aR 150]) (h1 := r11) rfl ?_
        refine A_callV hM rfl rfl (mem_GW 2007 (by decide +kernel) rfl) mi_X12_top (As := []) (rest := [aR 150]) (ct_X12_top r11 (OK_bind hh)) (by decide) ⟨Nat.zero_le _, Nat.zero_le _⟩ rfl rfl (Nat.le_of_ble_eq_true rfl) (by decide) rfl (by decide) rfl (fun r F' h' hq1 => ?_)
        obtain ⟨rfl, r13, rfl, e9, hh⟩ := hq1
        subst h'
        refine A_blk hM.1 1 (lv1 := [some (aR 150), some (aI r8)]) (s1 := [aI 0, aI r13, aR 150]) (h1 := r11) rfl ?_
        refine A_callV hM rfl rfl (mem_GW 1986 (by decide +kernel) rfl) mi_X12_emit (As := [aI r13, aI 0]) (rest := []) (ct_X12_emit r13 0 r11 (OK_bind hh)) (by decide) ⟨Nat.zero_le _, Nat.zero_le _⟩ rfl rfl (Nat.le_of_ble_eq_true rfl) (by decide) rfl (by decide) rfl (fun r F' h' hq1 => ?_)
        obtain ⟨rfl, rfl, hh⟩ := hq1
        obtain ⟨r14, rfl⟩ : ∃ z, z = h' := ⟨_, rfl⟩
        refine A_blk hM.1 7 (lv1 := [some (aR 150), some (aI r8)]) (s1 := [aR 150]) (h1 := setH r14 150 40 ((r14 150 40) - 1)) rfl ?_
        refine A_callV hM rfl rfl (mem_GW 2022 (by decide +kernel) rfl) mi_X12_ends (As := []) (rest := []) (ct_X12_ends (setH r14 150 40 ((r14 150 40) - 1)) (OK_bind hh)) (by decide) ⟨Nat.zero_le _, Nat.zero_le _⟩ rfl rfl (Nat.le_of_ble_eq_true rfl) (by decide) rfl (by decide) rfl (fun r F' h' hq1 => ?_)
        obtain ⟨rfl, rfl, hh⟩ := hq1
        obtain ⟨r15, rfl⟩ : ∃ z, z = h' := ⟨_, rfl⟩
        exact A_retv hM.1 rfl rfl rfl (hq r15 hh)
      · replace hh := OK_f hh hc
        exact A_retv hM.1 rfl rfl rfl (hq r11 hh)
    · replace hh := OK_f hh hc
      refine A_blk hM.1 4 (lv1 := [some (aR 150), some (aI r8)]) (s1 := [aI (h 150 34), aI 1, aR 150]) (h1 := h) rfl ?_
      refine A_callV hM rfl rfl (mem_GW 1956 (by decide +kernel) rfl) mi_X12_wrongs (As := [aI 1, aI (h 150 34)]) (rest := []) (ct_X12_wrongs 1 (h 150 34) h (OK_bind hh)) (by decide) ⟨Nat.zero_le _, Nat.zero_le _⟩ rfl rfl (Nat.le_of_ble_eq_true rfl) (by decide) rfl (by decide) rfl (fun r F' h' hq1 => ?_)
      obtain ⟨rfl, rfl, hh⟩ := hq1
      obtain ⟨r16, rfl⟩ : ∃ z, z = h' := ⟨_, rfl⟩
      exact A_retv hM.1 rfl rfl rfl (hq r16 hh)
  · replace hh := OK_f hh hc
    exact A_retv hM.1 rfl rfl rfl (hq h hh)

set_option maxRecDepth 20000 in
set_option maxHeartbeats 4000000 in
theorem c_X12_pieceOfC {k0 : K0} {G : Gx} {Qp : Option AV → Fx → Hp → Prop} (hM : MB (KM k0 0 0 Qp) G M_X12_pieceOfC 6) (h : Hp)   {P : Hp → Prop} (hq : ∀ z : Hp, P z → Qp none FN z) (hh : OK (X12_pieceOfC h) P) : ATk (KM k0 0 0 Qp) FN 0 0 M_X12_pieceOfC 0 [some (aR 150), none] [] h := by
  unfold X12_pieceOfC at hh
  refine iter_ok (s := h) (Gp := fun z => ATk (KM k0 0 0 Qp) FN 0 0 M_X12_pieceOfC 0 [some (aR 150), none] [] z) (E := fun z => ATk (KM k0 0 0 Qp) FN 0 0 M_X12_pieceOfC 14 [some (aR 150), none] [] z) (fun z P1 g1 g2 g3 => c_X12_pieceOfC_l0 hM  z g2 g3 g1) (OK_bind hh) (fun x5 hh => ?_)
  refine A_blk hM.1 1 (lv1 := [some (aR 150), none]) (s1 := [aR 150]) (h1 := x5) rfl ?_
  refine A_callV hM rfl rfl (mem_GW 1941 (by decide +kernel) rfl) mi_X12_isGood (As := []) (rest := []) (ct_X12_isGood x5 (OK_bind hh)) (by decide) ⟨Nat.zero_le _, Nat.zero_le _⟩ rfl rfl (Nat.le_of_ble_eq_true rfl) (by decide) rfl (by decide) rfl (fun r F' h' hq1 => ?_)
  obtain ⟨rfl, r6, rfl, e9, hh⟩ := hq1
  subst h'
  refine A_ifc hM.1 rfl rfl (fun hc => ?_) (fun hc => ?_)
  · replace hh := OK_t hh hc
    exact c_X12_pieceOfC_j19 hM x5 hq hh
  · replace hh := OK_f hh hc
    refine A_blk hM.1 1 (lv1 := [some (aR 150), none]) (s1 := [aR 150]) (h1 := x5) rfl ?_
    refine A_callV hM rfl rfl (mem_GW 1960 (by decide +kernel) rfl) mi_X12_value (As := []) (rest := []) (ct_X12_value x5 (OK_bind hh)) (by decide) ⟨Nat.zero_le _, Nat.zero_le _⟩ rfl rfl (Nat.le_of_ble_eq_true rfl) (by decide) rfl (by decide) rfl (fun r F' h' hq1 => ?_)
    obtain ⟨rfl, rfl, hh⟩ := hq1
    obtain ⟨r17, rfl⟩ : ∃ z, z = h' := ⟨_, rfl⟩
    exact c_X12_pieceOfC_j19 hM r17 hq hh

set_option maxRecDepth 20000 in
set_option maxHeartbeats 4000000 in
theorem ct_X12_pieceOfC {G : Gx} (h : Hp)   {P : Hp → Prop} (hh : OK (X12_pieceOfC h) P) : CT G yX12_pieceOfC M_X12_pieceOfC 6 0 0 FN h [aR 150] (fun r F' h' => F' = FN ∧ r = none ∧ P h') :=
  CT.of (by decide +kernel) rfl (Nat.le_of_ble_eq_true rfl) k_X12_pieceOfC fun k0 _ _ hM => c_X12_pieceOfC hM h (fun z hz => ⟨rfl, rfl, hz⟩) hh

theorem mi_X12_goesBehind : MIv yX12_goesBehind M_X12_goesBehind 0 := ⟨⟨(mem_GW 2029 (by decide +kernel) rfl), (mem_GW 135 (by decide +kernel) rfl), by decide +kernel, by decide +kernel, by decide +kernel, by decide⟩, (mem_GW 2028 (by decide +kernel) rfl), (mem_GW 79 (by decide +kernel) rfl)⟩
set_option maxRecDepth 20000 in
set_option maxHeartbeats 4000000 in
theorem c_X12_goesBehind_j16 {k0 : K0} {G : Gx} {Qp : Option AV → Fx → Hp → Prop} (hM : MB (KM k0 0 0 Qp) G M_X12_goesBehind 4) (v1 : Int) (s1 : Int) (h : Hp)   {P : (Int × Hp) → Prop} (hq : ∀ z : Int × Hp, P z → Qp (some (aI z.1)) FN z.2) (hh : OK (X12_goesBehind_j16 v1 s1 h) P) : ATk (KM k0 0 0 Qp) FN 0 0 M_X12_goesBehind 16 [some (aR 150), some (aI v1)] [aI s1, aR 150] h := by
  unfold X12_goesBehind_j16 at hh
  refine A_callV hM rfl rfl (mem_GW 2030 (by decide +kernel) rfl) mi_X12_joins (As := [aI s1]) (rest := []) (ct_X12_joins s1 h (OK_bind hh)) (by decide) ⟨Nat.zero_le _, Nat.zero_le _⟩ rfl rfl (Nat.le_of_ble_eq_true rfl) (by decide) rfl (by decide) rfl (fun r F' h' hq1 => ?_)
  obtain ⟨rfl, rfl, hh⟩ := hq1
  obtain ⟨r2, rfl⟩ : ∃ z, z = h' := ⟨_, rfl⟩
  refine A_blk hM.1 2 (lv1 := [some (aR 150), some (aI v1)]) (s1 := [aI v1, aR 150]) (h1 := r2) rfl ?_
  refine A_callV hM rfl rfl (mem_GW 1972 (by decide +kernel) rfl) mi_X12_puts (As := [aI v1]) (rest := []) (ct_X12_puts v1 r2 (OK_bind hh)) (by decide) ⟨Nat.zero_le _, Nat.zero_le _⟩ rfl rfl (Nat.le_of_ble_eq_true rfl) (by decide) rfl (by decide) rfl (fun r F' h' hq1 => ?_)
  obtain ⟨rfl, rfl, hh⟩ := hq1
  obtain ⟨r3, rfl⟩ : ∃ z, z = h' := ⟨_, rfl⟩
  refine A_blk hM.1 1 (lv1 := [some (aR 150), some (aI v1)]) (s1 := [aI 1]) (h1 := r3) rfl ?_
  exact A_retz hM.1 rfl rfl rfl (by decide) (hq (1, r3) hh)

set_option maxRecDepth 20000 in
set_option maxHeartbeats 4000000 in
theorem c_X12_goesBehind_j9 {k0 : K0} {G : Gx} {Qp : Option AV → Fx → Hp → Prop} (hM : MB (KM k0 0 0 Qp) G M_X12_goesBehind 4) (v1 : Int) (h : Hp)   {P : (Int × Hp) → Prop} (hq : ∀ z : Int × Hp, P z → Qp (some (aI z.1)) FN z.2) (hh : OK (X12_goesBehind_j9 v1 h) P) : ATk (KM k0 0 0 Qp) FN 0 0 M_X12_goesBehind 9 [some (aR 150), some (aI v1)] [] h := by
  unfold X12_goesBehind_j9 at hh
  refine A_blk hM.1 3 (lv1 := [some (aR 150), some (aI v1)]) (s1 := [aI 124, aI v1, aR 150]) (h1 := h) rfl ?_
  refine A_icmp hM.1 rfl rfl (fun hc => ?_) (fun hc => ?_)
  · replace hh := OK_t hh hc
    refine A_blk hM.1 1 (lv1 := [some (aR 150), some (aI v1)]) (s1 := [aI 0, aR 150]) (h1 := h) rfl ?_
    exact c_X12_goesBehind_j16 hM v1 0 h hq hh
  · replace hh := OK_f hh hc
    refine A_blk hM.1 1 (lv1 := [some (aR 150), some (aI v1)]) (s1 := [aI 1, aR 150]) (h1 := h) rfl ?_
    refine A_go hM.1 rfl rfl ?_
    exact c_X12_goesBehind_j16 hM v1 1 h hq hh

set_option maxRecDepth 20000 in
set_option maxHeartbeats 4000000 in
theorem c_X12_goesBehind_j60 {k0 : K0} {G : Gx} {Qp : Option AV → Fx → Hp → Prop} (hM : MB (KM k0 0 0 Qp) G M_X12_goesBehind 4) (s1 : Int) (h : Hp)   {P : (Int × Hp) → Prop} (hq : ∀ z : Int × Hp, P z → Qp (some (aI z.1)) FN z.2) (hh : OK (X12_goesBehind_j60 s1 h) P) : ATk (KM k0 0 0 Qp) FN 0 0 M_X12_goesBehind 60 [some (aR 150), none] [aI s1, aR 150] h := by
  unfold X12_goesBehind_j60 at hh
  obtain ⟨hz5, hh⟩ := OK_g hh
  refine A_putz hM.1 rfl rfl rfl (by decide) rfl rfl rfl hz5 ?_
  refine A_blk hM.1 2 (lv1 := [some (aR 150), none]) (s1 := [aI s1]) (h1 := setH h 150 41 s1) rfl ?_
  refine A_ifc hM.1 rfl rfl (fun hc => ?_) (fun hc => ?_)
  · replace hh := OK_t hh hc
    refine A_blk hM.1 1 (lv1 := [some (aR 150), none]) (s1 := [aI 0]) (h1 := setH h 150 41 s1) rfl ?_
    exact A_retz hM.1 rfl rfl rfl (by decide) (hq (0, setH h 150 41 s1) hh)
  · replace hh := OK_f hh hc
    refine A_blk hM.1 1 (lv1 := [some (aR 150), none]) (s1 := [aR 150]) (h1 := setH h 150 41 s1) rfl ?_
    refine A_callV hM rfl rfl (mem_GW 2022 (by decide +kernel) rfl) mi_X12_ends (As := []) (rest := []) (ct_X12_ends (setH h 150 41 s1) (OK_bind hh)) (by decide) ⟨Nat.zero_le _, Nat.zero_le _⟩ rfl rfl (Nat.le_of_ble_eq_true rfl) (by decide) rfl (by decide) rfl (fun r F' h' hq1 => ?_)
    obtain ⟨rfl, rfl, hh⟩ := hq1
    obtain ⟨r6, rfl⟩ : ∃ z, z = h' := ⟨_, rfl⟩
    refine A_blk hM.1 1 (lv1 := [some (aR 150), none]) (s1 := [aI 0]) (h1 := r6) rfl ?_
    exact A_retz hM.1 rfl rfl rfl (by decide) (hq (0, r6) hh)

set_option maxRecDepth 20000 in
set_option maxHeartbeats 4000000 in
theorem c_X12_goesBehind {k0 : K0} {G : Gx} {Qp : Option AV → Fx → Hp → Prop} (hM : MB (KM k0 0 0 Qp) G M_X12_goesBehind 4) (h : Hp)   {P : (Int × Hp) → Prop} (hq : ∀ z : Int × Hp, P z → Qp (some (aI z.1)) FN z.2) (hh : OK (X12_goesBehind h) P) : ATk (KM k0 0 0 Qp) FN 0 0 M_X12_goesBehind 0 [some (aR 150), none] [] h := by
  unfold X12_goesBehind at hh
  refine A_blk hM.1 1 (lv1 := [some (aR 150), none]) (s1 := [aR 150]) (h1 := h) rfl ?_
  refine A_callV hM rfl rfl (mem_GW 1949 (by decide +kernel) rfl) mi_X12_here (As := []) (rest := []) (ct_X12_here h (OK_bind hh)) (by decide) ⟨Nat.zero_le _, Nat.zero_le _⟩ rfl rfl (Nat.le_of_ble_eq_true rfl) (by decide) rfl (by decide) rfl (fun r F' h' hq1 => ?_)
  obtain ⟨rfl, r1, rfl, e9, hh⟩ := hq1
  subst h'
  refine A_blk hM.1 3 (lv1 := [some (aR 150), some (aI r1)]) (s1 := [aI 38, aI r1]) (h1 := h) rfl ?_
  refine A_icmp hM.1 rfl rfl (fun hc => ?_) (fun hc => ?_)
  · replace hh := OK_t hh hc
    exact c_X12_goesBehind_j9 hM r1 h hq hh
  · replace hh := OK_f hh hc
    refine A_blk hM.1 2 (lv1 := [some (aR 150), some (aI r1)]) (s1 := [aI 124, aI r1]) (h1 := h) rfl ?_
    refine A_icmp hM.1 rfl rfl (fun hc => ?_) (fun hc => ?_)
    · replace hh := OK_t hh hc
      refine A_blk hM.1 2 (lv1 := [some (aR 150), some (aI r1)]) (s1 := [aI 41, aI r1]) (h1 := h) rfl ?_
      refine A_icmp hM.1 rfl rfl (fun hc => ?_) (fun hc => ?_)
      · replace hh := OK_t hh hc
        refine A_blk hM.1 2 (lv1 := [some (aR 150), some (aI r1)]) (s1 := [aI 1, aR 150]) (h1 := h) rfl ?_
        refine A_callV hM rfl rfl (mem_GW 2030 (by decide +kernel) rfl) mi_X12_joins (As := [aI 1]) (rest := []) (ct_X12_joins 1 h (OK_bind hh)) (by decide) ⟨Nat.zero_le _, Nat.zero_le _⟩ rfl rfl (Nat.le_of_ble_eq_true rfl) (by decide) rfl (by decide) rfl (fun r F' h' hq1 => ?_)
        obtain ⟨rfl, rfl, hh⟩ := hq1
        obtain ⟨r4, rfl⟩ : ∃ z, z = h' := ⟨_, rfl⟩
        refine A_blk hM.1 21 (lv1 := [some (aR 150), some (aI r1)]) (s1 := [aI ((r4 150 40) - 1), aR 150]) (h1 := setH (setH (setH r4 150 40 ((r4 150 40) - 1)) 150 39 ((r4 150 39) - 1)) 150 34 ((r4 150 34) + 1)) rfl ?_
        refine A_ifc hM.1 rfl rfl (fun hc => ?_) (fun hc => ?_)
        · replace hh := OK_t hh hc
          refine A_blk hM.1 1 (lv1 := [some (aR 150), some (aI r1)]) (s1 := [aI 0, aR 150]) (h1 := setH (setH (setH r4 150 40 ((r4 150 40) - 1)) 150 39 ((r4 150 39) - 1)) 150 34 ((r4 150 34) + 1)) rfl ?_
          refine A_mask [true, false] (lv1 := [some (aR 150), none]) rfl ?_
          exact c_X12_goesBehind_j60 hM 0 (setH (setH (setH r4 150 40 ((r4 150 40) - 1)) 150 39 ((r4 150 39) - 1)) 150 34 ((r4 150 34) + 1)) hq hh
        · replace hh := OK_f hh hc
          refine A_blk hM.1 1 (lv1 := [some (aR 150), some (aI r1)]) (s1 := [aI 1, aR 150]) (h1 := setH (setH (setH r4 150 40 ((r4 150 40) - 1)) 150 39 ((r4 150 39) - 1)) 150 34 ((r4 150 34) + 1)) rfl ?_
          refine A_go hM.1 rfl rfl ?_
          refine A_mask [true, false] (lv1 := [some (aR 150), none]) rfl ?_
          exact c_X12_goesBehind_j60 hM 1 (setH (setH (setH r4 150 40 ((r4 150 40) - 1)) 150 39 ((r4 150 39) - 1)) 150 34 ((r4 150 34) + 1)) hq hh
      · replace hh := OK_f hh hc
        refine A_blk hM.1 4 (lv1 := [some (aR 150), some (aI r1)]) (s1 := [aI (h 150 34), aI 1, aR 150]) (h1 := h) rfl ?_
        refine A_callV hM rfl rfl (mem_GW 1956 (by decide +kernel) rfl) mi_X12_wrongs (As := [aI 1, aI (h 150 34)]) (rest := []) (ct_X12_wrongs 1 (h 150 34) h (OK_bind hh)) (by decide) ⟨Nat.zero_le _, Nat.zero_le _⟩ rfl rfl (Nat.le_of_ble_eq_true rfl) (by decide) rfl (by decide) rfl (fun r F' h' hq1 => ?_)
        obtain ⟨rfl, rfl, hh⟩ := hq1
        obtain ⟨r7, rfl⟩ : ∃ z, z = h' := ⟨_, rfl⟩
        refine A_blk hM.1 1 (lv1 := [some (aR 150), some (aI r1)]) (s1 := [aI 0]) (h1 := r7) rfl ?_
        exact A_retz hM.1 rfl rfl rfl (by decide) (hq (0, r7) hh)
    · replace hh := OK_f hh hc
      exact c_X12_goesBehind_j9 hM r1 h hq hh

set_option maxRecDepth 20000 in
set_option maxHeartbeats 4000000 in
theorem ct_X12_goesBehind {G : Gx} (h : Hp)   {P : (Int × Hp) → Prop} (hh : OK (X12_goesBehind h) P) : CT G yX12_goesBehind M_X12_goesBehind 4 0 0 FN h [aR 150] (fun r F' h' => F' = FN ∧ ∃ z, r = some (aI z.1) ∧ h' = z.2 ∧ P z) :=
  CT.of (by decide +kernel) rfl (Nat.le_of_ble_eq_true rfl) k_X12_goesBehind fun k0 _ _ hM => c_X12_goesBehind hM h (fun z hz => ⟨rfl, z, rfl, rfl, hz⟩) hh

