set_option linter.all false
theorem mi_X4_ofGreatest : MIv yX4_ofGreatest M_X4_ofGreatest 2 := ⟨⟨(mem_GW 1398 (by decide +kernel) rfl), (mem_GW 128 (by decide +kernel) rfl), by decide +kernel, by decide +kernel, by decide +kernel, by decide⟩, (mem_GW 1396 (by decide +kernel) rfl), (mem_GW 1397 (by decide +kernel) rfl)⟩
set_option maxRecDepth 20000 in
set_option maxHeartbeats 4000000 in
theorem c_X4_ofGreatest {k0 : K0} {G : Gx} {Qp : Option AV → Fx → Hp → Prop} (hM : MB (KM k0 0 0 Qp) G M_X4_ofGreatest 3) (v1 : Int) (v3 : Int) (h : Hp)   {P : Hp → Prop} (hq : ∀ z : Hp, P z → Qp none FN z) (hh : OK (X4_ofGreatest v1 v3 h) P) : ATk (KM k0 0 0 Qp) FN 0 0 M_X4_ofGreatest 0 [some (aR 52), some (aL v1), none, some (aI v3), none, none] [] h := by
  unfold X4_ofGreatest at hh
  refine A_blk hM.1 1 (lv1 := [some (aR 52), some (aL v1), none, some (aI v3), none, none]) (s1 := [aL v1]) (h1 := h) rfl ?_
  refine A_callS hM rfl rfl (mem_GW 1399 (by decide +kernel) rfl) mi_J13_bitCount ms_J13_bitCount (As := [aL v1]) (rest := []) (ct_J13_bitCount v1 h (OK_bind hh)) (by decide) ⟨Nat.zero_le _, Nat.zero_le _⟩ rfl rfl (Nat.le_of_ble_eq_true rfl) (fun r F' h' hq1 => ?_)
  obtain ⟨rfl, r1, rfl, e9, hh⟩ := hq1
  subst h'
  refine A_blk hM.1 3 (lv1 := [some (aR 52), some (aL v1), none, some (aI v3), some (aI r1), none]) (s1 := [aL v1, aI 64]) (h1 := h) rfl ?_
  refine A_callS hM rfl rfl (mem_GW 1400 (by decide +kernel) rfl) mi_J13_numberOfLeadingZeros ms_J13_numberOfLeadingZeros (As := [aL v1]) (rest := [aI 64]) (ct_J13_numberOfLeadingZeros v1 h (OK_bind hh)) (by decide) ⟨Nat.zero_le _, Nat.zero_le _⟩ rfl rfl (Nat.le_of_ble_eq_true rfl) (fun r F' h' hq1 => ?_)
  obtain ⟨rfl, r2, rfl, e9, hh⟩ := hq1
  subst h'
  refine A_blk hM.1 4 (lv1 := [some (aR 52), some (aL v1), none, some (aI v3), some (aI r1), some (aI (64 - r2))]) (s1 := [aI (64 - r2), aI v3]) (h1 := h) rfl ?_
  refine A_icmp hM.1 rfl rfl (fun hc => ?_) (fun hc => ?_)
  · replace hh := OK_t hh hc
    refine A_blk hM.1 7 (lv1 := [some (aR 52), some (aL v1), none, some (aI v3), some (aI r1), some (aI (64 - r2))]) (s1 := [aI (r1 - 1), aI ((64 - r2) - 1), aR 52]) (h1 := h) rfl ?_
    refine A_callS hM rfl rfl (mem_GW 1182 (by decide +kernel) rfl) mi_X4_choose ms_X4_choose (As := [aI ((64 - r2) - 1), aI (r1 - 1)]) (rest := [aR 52]) (ct_X4_choose ((64 - r2) - 1) (r1 - 1) h (OK_bind hh)) (by decide) ⟨Nat.zero_le _, Nat.zero_le _⟩ rfl rfl (Nat.le_of_ble_eq_true rfl) (fun r F' h' hq1 => ?_)
    obtain ⟨rfl, r3, rfl, e9, hh⟩ := hq1
    subst h'
    refine A_blk hM.1 2 (lv1 := [some (aR 52), some (aL v1), none, some (aI v3), some (aI r1), some (aI (64 - r2))]) (s1 := [aI r1, aI v3, aL r3, aR 52]) (h1 := h) rfl ?_
    refine A_callS hM rfl rfl (mem_GW 1182 (by decide +kernel) rfl) mi_X4_choose ms_X4_choose (As := [aI v3, aI r1]) (rest := [aL r3, aR 52]) (ct_X4_choose v3 r1 h (OK_bind hh)) (by decide) ⟨Nat.zero_le _, Nat.zero_le _⟩ rfl rfl (Nat.le_of_ble_eq_true rfl) (fun r F' h' hq1 => ?_)
    obtain ⟨rfl, r4, rfl, e9, hh⟩ := hq1
    subst h'
    refine A_callV hM rfl rfl (mem_GW 1185 (by decide +kernel) rfl) mi_X4_reduce (As := [aL r3, aL r4]) (rest := []) (ct_X4_reduce r3 r4 h (OK_bind hh)) (by decide) ⟨Nat.zero_le _, Nat.zero_le _⟩ rfl rfl (Nat.le_of_ble_eq_true rfl) (by decide) rfl (by decide) rfl (fun r F' h' hq1 => ?_)
    obtain ⟨rfl, rfl, hh⟩ := hq1
    obtain ⟨r5, rfl⟩ : ∃ z, z = h' := ⟨_, rfl⟩
    exact A_retv hM.1 rfl rfl rfl (hq r5 hh)
  · replace hh := OK_f hh hc
    refine A_blk hM.1 3 (lv1 := [some (aR 52), some (aL v1), none, some (aI v3), some (aI r1), some (aI (64 - r2))]) (s1 := [aL 1, aL 0, aR 52]) (h1 := h) rfl ?_
    refine A_callV hM rfl rfl (mem_GW 1185 (by decide +kernel) rfl) mi_X4_reduce (As := [aL 0, aL 1]) (rest := []) (ct_X4_reduce 0 1 h (OK_bind hh)) (by decide) ⟨Nat.zero_le _, Nat.zero_le _⟩ rfl rfl (Nat.le_of_ble_eq_true rfl) (by decide) rfl (by decide) rfl (fun r F' h' hq1 => ?_)
    obtain ⟨rfl, rfl, hh⟩ := hq1
    obtain ⟨r6, rfl⟩ : ∃ z, z = h' := ⟨_, rfl⟩
    refine A_go hM.1 rfl rfl ?_
    exact A_retv hM.1 rfl rfl rfl (hq r6 hh)

set_option maxRecDepth 20000 in
set_option maxHeartbeats 4000000 in
theorem ct_X4_ofGreatest {G : Gx} (v1 : Int) (v3 : Int) (h : Hp)   {P : Hp → Prop} (hh : OK (X4_ofGreatest v1 v3 h) P) : CT G yX4_ofGreatest M_X4_ofGreatest 3 0 0 FN h [aR 52, aL v1, aI v3] (fun r F' h' => F' = FN ∧ r = none ∧ P h') :=
  CT.of (by decide +kernel) rfl (Nat.le_of_ble_eq_true rfl) k_X4_ofGreatest fun k0 _ _ hM => c_X4_ofGreatest hM v1 v3 h (fun z hz => ⟨rfl, rfl, hz⟩) hh

theorem mi_X11_length : MIv yX11_length M_X11_length 3 := ⟨⟨(mem_GW 1388 (by decide +kernel) rfl), (mem_GW 123 (by decide +kernel) rfl), by decide +kernel, by decide +kernel, by decide +kernel, by decide⟩, (mem_GW 1386 (by decide +kernel) rfl), (mem_GW 1387 (by decide +kernel) rfl)⟩
set_option maxRecDepth 20000 in
set_option maxHeartbeats 4000000 in
theorem c_X11_length {k0 : K0} {G : Gx} {Qp : Option AV → Fx → Hp → Prop} (hM : MB (KM k0 0 0 Qp) G M_X11_length 4) (v1 : Int) (v2 : Int) (v3 : Int) (h : Hp)   {P : (Int × Hp) → Prop} (hq : ∀ z : Int × Hp, P z → Qp (some (aL z.1)) FN z.2) (hh : OK (X11_length v1 v2 v3 h) P) : ATk (KM k0 0 0 Qp) FN 0 0 M_X11_length 0 [some (aR 0), some (aI v1), some (aI v2), some (aI v3), none, none] [] h := by
  unfold X11_length at hh
  refine A_blk hM.1 3 (lv1 := [some (aR 0), some (aI v1), some (aI v2), some (aI v3), none, none]) (s1 := [aI v1, aR 3]) (h1 := h) rfl ?_
  refine A_callV hM rfl rfl (mem_GW 632 (by decide +kernel) rfl) mi_X7_isWork (As := [aI v1]) (rest := []) (ct_X7_isWork v1 h (OK_bind hh)) (by decide) ⟨Nat.zero_le _, Nat.zero_le _⟩ rfl rfl (Nat.le_of_ble_eq_true rfl) (by decide) rfl (by decide) rfl (fun r F' h' hq1 => ?_)
  obtain ⟨rfl, r1, rfl, e9, hh⟩ := hq1
  subst h'
  refine A_ifc hM.1 rfl rfl (fun hc => ?_) (fun hc => ?_)
  · replace hh := OK_t hh hc
    refine A_blk hM.1 1 (lv1 := [some (aR 0), some (aI v1), some (aI v2), some (aI v3), none, none]) (s1 := [aL (-1)]) (h1 := h) rfl ?_
    exact A_retl hM.1 rfl rfl rfl (hq ((-1), h) hh)
  · replace hh := OK_f hh hc
    refine A_blk hM.1 3 (lv1 := [some (aR 0), some (aI v1), some (aI v2), some (aI v3), none, none]) (s1 := [aI 40, aI 1, aI v2]) (h1 := h) rfl ?_
    refine A_callS hM rfl rfl (mem_GW 576 (by decide +kernel) rfl) mi_X11_within ms_X11_within (As := [aI v2, aI 1, aI 40]) (rest := []) (ct_X11_within v2 1 40 h (OK_bind hh)) (by decide) ⟨Nat.zero_le _, Nat.zero_le _⟩ rfl rfl (Nat.le_of_ble_eq_true rfl) (fun r F' h' hq1 => ?_)
    obtain ⟨rfl, r2, rfl, e9, hh⟩ := hq1
    subst h'
    refine A_ifc hM.1 rfl rfl (fun hc => ?_) (fun hc => ?_)
    · replace hh := OK_t hh hc
      refine A_blk hM.1 1 (lv1 := [some (aR 0), some (aI v1), some (aI v2), some (aI v3), none, none]) (s1 := [aL (-1)]) (h1 := h) rfl ?_
      exact A_retl hM.1 rfl rfl rfl (hq ((-1), h) hh)
    · replace hh := OK_f hh hc
      refine A_blk hM.1 3 (lv1 := [some (aR 0), some (aI v1), some (aI v2), some (aI v3), none, none]) (s1 := [aI 1, aI 0, aI v3]) (h1 := h) rfl ?_
      refine A_callS hM rfl rfl (mem_GW 576 (by decide +kernel) rfl) mi_X11_within ms_X11_within (As := [aI v3, aI 0, aI 1]) (rest := []) (ct_X11_within v3 0 1 h (OK_bind hh)) (by decide) ⟨Nat.zero_le _, Nat.zero_le _⟩ rfl rfl (Nat.le_of_ble_eq_true rfl) (fun r F' h' hq1 => ?_)
      obtain ⟨rfl, r3, rfl, e9, hh⟩ := hq1
      subst h'
      refine A_ifc hM.1 rfl rfl (fun hc => ?_) (fun hc => ?_)
      · replace hh := OK_t hh hc
        refine A_blk hM.1 3 (lv1 := [some (aR 0), some (aI v1), some (aI v2), some (aI v3), none, none]) (s1 := [aI v1, aR 3]) (h1 := h) rfl ?_
        refine A_callV hM rfl rfl (mem_GW 1389 (by decide +kernel) rfl) mi_X7_toldBooks (As := [aI v1]) (rest := []) (ct_X7_toldBooks v1 h (OK_bind hh)) (by decide) ⟨Nat.zero_le _, Nat.zero_le _⟩ rfl rfl (Nat.le_of_ble_eq_true rfl) (by decide) rfl (by decide) rfl (fun r F' h' hq1 => ?_)
        obtain ⟨rfl, r4, rfl, e9, hh⟩ := hq1
        subst h'
        refine A_blk hM.1 4 (lv1 := [some (aR 0), some (aI v1), some (aI v2), some (aI v3), some (aL r4), none]) (s1 := [aI (cmp64 r4 0)]) (h1 := h) rfl ?_
        refine A_ifc hM.1 rfl rfl (fun hc => ?_) (fun hc => ?_)
        · replace hh := OK_t hh hc
          refine A_blk hM.1 4 (lv1 := [some (aR 0), some (aI v1), some (aI v2), some (aI v3), some (aL r4), none]) (s1 := [aI v2, aL r4, aR 52]) (h1 := h) rfl ?_
          refine A_callV hM rfl rfl (mem_GW 1395 (by decide +kernel) rfl) mi_X4_ofGreatest (As := [aL r4, aI v2]) (rest := []) (ct_X4_ofGreatest r4 v2 h (OK_bind hh)) (by decide) ⟨Nat.zero_le _, Nat.zero_le _⟩ rfl rfl (Nat.le_of_ble_eq_true rfl) (by decide) rfl (by decide) rfl (fun r F' h' hq1 => ?_)
          obtain ⟨rfl, rfl, hh⟩ := hq1
          obtain ⟨r5, rfl⟩ : ∃ z, z = h' := ⟨_, rfl⟩
          refine A_blk hM.1 1 (lv1 := [some (aR 0), some (aI v1), some (aI v2), some (aI v3), some (aL r4), none]) (s1 := [aI v3]) (h1 := r5) rfl ?_
          refine A_ifc hM.1 rfl rfl (fun hc => ?_) (fun hc => ?_)
          · replace hh := OK_t hh hc
            refine A_blk hM.1 2 (lv1 := [some (aR 0), some (aI v1), some (aI v2), some (aI v3), some (aL r4), none]) (s1 := [aR 52]) (h1 := r5) rfl ?_
            refine A_callV hM rfl rfl (mem_GW 1209 (by decide +kernel) rfl) mi_X4_below (As := []) (rest := []) (ct_X4_below r5 (OK_bind hh)) (by decide) ⟨Nat.zero_le _, Nat.zero_le _⟩ rfl rfl (Nat.le_of_ble_eq_true rfl) (by decide) rfl (by decide) rfl (fun r F' h' hq1 => ?_)
            obtain ⟨rfl, r6, rfl, e9, hh⟩ := hq1
            subst h'
            exact A_retl hM.1 rfl rfl rfl (hq (r6, r5) hh)
          · replace hh := OK_f hh hc
            refine A_blk hM.1 2 (lv1 := [some (aR 0), some (aI v1), some (aI v2), some (aI v3), some (aL r4), none]) (s1 := [aR 52]) (h1 := r5) rfl ?_
            refine A_callV hM rfl rfl (mem_GW 1205 (by decide +kernel) rfl) mi_X4_above (As := []) (rest := []) (ct_X4_above r5 (OK_bind hh)) (by decide) ⟨Nat.zero_le _, Nat.zero_le _⟩ rfl rfl (Nat.le_of_ble_eq_true rfl) (by decide) rfl (by decide) rfl (fun r F' h' hq1 => ?_)
            obtain ⟨rfl, r7, rfl, e9, hh⟩ := hq1
            subst h'
            refine A_go hM.1 rfl rfl ?_
            exact A_retl hM.1 rfl rfl rfl (hq (r7, r5) hh)
        · replace hh := OK_f hh hc
          refine A_blk hM.1 1 (lv1 := [some (aR 0), some (aI v1), some (aI v2), some (aI v3), some (aL r4), none]) (s1 := [aL (-2)]) (h1 := h) rfl ?_
          exact A_retl hM.1 rfl rfl rfl (hq ((-2), h) hh)
      · replace hh := OK_f hh hc
        refine A_blk hM.1 1 (lv1 := [some (aR 0), some (aI v1), some (aI v2), some (aI v3), none, none]) (s1 := [aL (-1)]) (h1 := h) rfl ?_
        exact A_retl hM.1 rfl rfl rfl (hq ((-1), h) hh)

set_option maxRecDepth 20000 in
set_option maxHeartbeats 4000000 in
theorem ct_X11_length {G : Gx} (v1 : Int) (v2 : Int) (v3 : Int) (h : Hp)   {P : (Int × Hp) → Prop} (hh : OK (X11_length v1 v2 v3 h) P) : CT G yX11_length M_X11_length 4 0 0 FN h [aR 0, aI v1, aI v2, aI v3] (fun r F' h' => F' = FN ∧ ∃ z, r = some (aL z.1) ∧ h' = z.2 ∧ P z) :=
  CT.of (by decide +kernel) rfl (Nat.le_of_ble_eq_true rfl) k_X11_length fun k0 _ _ hM => c_X11_length hM v1 v2 v3 h (fun z hz => ⟨rfl, z, rfl, rfl, hz⟩) hh

theorem mi_X4_notBelow : MIv yX4_notBelow M_X4_notBelow 1 := ⟨⟨(mem_GW 1413 (by decide +kernel) rfl), (mem_GW 128 (by decide +kernel) rfl), by decide +kernel, by decide +kernel, by decide +kernel, by decide⟩, (mem_GW 1411 (by decide +kernel) rfl), (mem_GW 1412 (by decide +kernel) rfl)⟩
set_option maxRecDepth 20000 in
set_option maxHeartbeats 4000000 in
theorem c_X4_notBelow {k0 : K0} {G : Gx} {Qp : Option AV → Fx → Hp → Prop} (hM : MB (KM k0 0 0 Qp) G M_X4_notBelow 1) (v1 : Int) (h : Hp)   {P : Int → Prop} (hq : ∀ z : Int, P z → Qp (some (aI z)) FN h) (hh : OK (X4_notBelow v1 h) P) : ATk (KM k0 0 0 Qp) FN 0 0 M_X4_notBelow 0 [some (aR 52), some (aI v1)] [] h := by
  unfold X4_notBelow at hh
  refine A_blk hM.1 10 (lv1 := [some (aR 52), some (aI v1)]) (s1 := [aI (cmp64 ((h 52 0) * 1000) ((w32 v1) * (h 52 1)))]) (h1 := h) rfl ?_
  refine A_ifc hM.1 rfl rfl (fun hc => ?_) (fun hc => ?_)
  · replace hh := OK_t hh hc
    refine A_blk hM.1 1 (lv1 := [some (aR 52), some (aI v1)]) (s1 := [aI 0]) (h1 := h) rfl ?_
    exact A_retz hM.1 rfl rfl rfl (by decide) (hq 0 hh)
  · replace hh := OK_f hh hc
    refine A_blk hM.1 1 (lv1 := [some (aR 52), some (aI v1)]) (s1 := [aI 1]) (h1 := h) rfl ?_
    refine A_go hM.1 rfl rfl ?_
    exact A_retz hM.1 rfl rfl rfl (by decide) (hq 1 hh)

set_option maxRecDepth 20000 in
set_option maxHeartbeats 4000000 in
theorem ct_X4_notBelow {G : Gx} (v1 : Int) (h : Hp)   {P : Int → Prop} (hh : OK (X4_notBelow v1 h) P) : CT G yX4_notBelow M_X4_notBelow 1 0 0 FN h [aR 52, aI v1] (fun r F' h' => F' = FN ∧ ∃ z, r = some (aI z) ∧ h' = h ∧ P z) :=
  CT.of (by decide +kernel) rfl (Nat.le_of_ble_eq_true rfl) k_X4_notBelow fun k0 _ _ hM => c_X4_notBelow hM v1 h (fun z hz => ⟨rfl, z, rfl, rfl, hz⟩) hh

theorem mi_X11_span : MIv yX11_span M_X11_span 3 := ⟨⟨(mem_GW 1409 (by decide +kernel) rfl), (mem_GW 123 (by decide +kernel) rfl), by decide +kernel, by decide +kernel, by decide +kernel, by decide⟩, (mem_GW 1407 (by decide +kernel) rfl), (mem_GW 1408 (by decide +kernel) rfl)⟩
set_option maxRecDepth 20000 in
set_option maxHeartbeats 4000000 in
theorem c_X11_span_j51 {k0 : K0} {G : Gx} {Qp : Option AV → Fx → Hp → Prop} (hM : MB (KM k0 0 0 Qp) G M_X11_span 4) (v2 : Int) (v3 : Int) (v4 : Int) (v6 : Int) (v7 : Int) (h : Hp)   {P : ((Int × Int × Hp) ⊕ (Int × Hp)) → Prop} (hin : ∀ y : Int × Int × Hp, P (.inl y) → ATk (KM k0 0 0 Qp) FN 0 0 M_X11_span 26 [some (aR 0), none, some (aI v2), some (aI v3), some (aL v4), none, some (aI y.1), some (aI y.2.1)] [] y.2.2) (hout0 : ∀ y : Int × Hp, P (.inr y) → ATk (KM k0 0 0 Qp) FN 0 0 M_X11_span 53 [none, none, none, none, none, none, some (aI y.1), none] [] y.2) (hh : OK (X11_span_j51 v2 v3 v4 v6 v7 h) P) : ATk (KM k0 0 0 Qp) FN 0 0 M_X11_span 51 [some (aR 0), none, some (aI v2), some (aI v3), some (aL v4), none, some (aI v6), some (aI v7)] [] h := by
  unfold X11_span_j51 at hh
  refine A_blk hM.1 1 (lv1 := [some (aR 0), none, some (aI v2), some (aI v3), some (aL v4), none, some (aI v6), some (aI (v7 + 1))]) (s1 := []) (h1 := h) rfl ?_
  refine A_go hM.1 rfl rfl ?_
  exact hin (v6, v7 + 1, h) hh

set_option maxRecDepth 20000 in
set_option maxHeartbeats 4000000 in
theorem c_X11_span_j49 {k0 : K0} {G : Gx} {Qp : Option AV → Fx → Hp → Prop} (hM : MB (KM k0 0 0 Qp) G M_X11_span 4) (v2 : Int) (v3 : Int) (v4 : Int) (v7 : Int) (h : Hp)   {P : ((Int × Int × Hp) ⊕ (Int × Hp)) → Prop} (hin : ∀ y : Int × Int × Hp, P (.inl y) → ATk (KM k0 0 0 Qp) FN 0 0 M_X11_span 26 [some (aR 0), none, some (aI v2), some (aI v3), some (aL v4), none, some (aI y.1), some (aI y.2.1)] [] y.2.2) (hout0 : ∀ y : Int × Hp, P (.inr y) → ATk (KM k0 0 0 Qp) FN 0 0 M_X11_span 53 [none, none, none, none, none, none, some (aI y.1), none] [] y.2) (hh : OK (X11_span_j49 v2 v3 v4 v7 h) P) : ATk (KM k0 0 0 Qp) FN 0 0 M_X11_span 49 [some (aR 0), none, some (aI v2), some (aI v3), some (aL v4), none, none, some (aI v7)] [] h := by
  unfold X11_span_j49 at hh
  refine A_blk hM.1 2 (lv1 := [some (aR 0), none, some (aI v2), some (aI v3), some (aL v4), none, some (aI v7), some (aI v7)]) (s1 := []) (h1 := h) rfl ?_
  exact c_X11_span_j51 hM v2 v3 v4 v7 v7 h hin hout0 hh

set_option maxRecDepth 20000 in
set_option maxHeartbeats 4000000 in
theorem c_X11_span_l26 {k0 : K0} {G : Gx} {Qp : Option AV → Fx → Hp → Prop} (hM : MB (KM k0 0 0 Qp) G M_X11_span 4) (v2 : Int) (v3 : Int) (v4 : Int) (x : Int × Int × Hp)   {P : ((Int × Int × Hp) ⊕ (Int × Hp)) → Prop} (hin : ∀ y : Int × Int × Hp, P (.inl y) → ATk (KM k0 0 0 Qp) FN 0 0 M_X11_span 26 [some (aR 0), none, some (aI v2), some (aI v3), some (aL v4), none, some (aI y.1), some (aI y.2.1)] [] y.2.2) (hout0 : ∀ y : Int × Hp, P (.inr y) → ATk (KM k0 0 0 Qp) FN 0 0 M_X11_span 53 [none, none, none, none, none, none, some (aI y.1), none] [] y.2) (hh : OK (X11_span_l26 v2 v3 v4 x) P) : ATk (KM k0 0 0 Qp) FN 0 0 M_X11_span 26 [some (aR 0), none, some (aI v2), some (aI v3), some (aL v4), none, some (aI x.1), some (aI x.2.1)] [] x.2.2 := by
  unfold X11_span_l26 at hh
  refine A_blk hM.1 3 (lv1 := [some (aR 0), none, some (aI v2), some (aI v3), some (aL v4), none, some (aI x.1), some (aI x.2.1)]) (s1 := [aI (cmp64 v4 0)]) (h1 := x.2.2) rfl ?_
  refine A_ifc hM.1 rfl rfl (fun hc => ?_) (fun hc => ?_)
  · replace hh := OK_t hh hc
    refine A_mask [false, true, false, false, false, true, true, false] (lv1 := [none, none, none, none, none, none, some (aI x.1), none]) rfl ?_
    exact hout0 (x.1, x.2.2) hh
  · replace hh := OK_f hh hc
    refine A_blk hM.1 2 (lv1 := [some (aR 0), none, some (aI v2), some (aI v3), some (aL v4), none, some (aI x.1), some (aI x.2.1)]) (s1 := [aI 40, aI x.2.1]) (h1 := x.2.2) rfl ?_
    refine A_icmp hM.1 rfl rfl (fun hc => ?_) (fun hc => ?_)
    · replace hh := OK_t hh hc
      refine A_mask [false, true, false, false, false, true, true, false] (lv1 := [none, none, none, none, none, none, some (aI x.1), none]) rfl ?_
      exact hout0 (x.1, x.2.2) hh
    · replace hh := OK_f hh hc
      refine A_blk hM.1 4 (lv1 := [some (aR 0), none, some (aI v2), some (aI v3), some (aL v4), none, some (aI x.1), some (aI x.2.1)]) (s1 := [aI x.2.1, aL v4, aR 52]) (h1 := x.2.2) rfl ?_
      refine A_callV hM rfl rfl (mem_GW 1395 (by decide +kernel) rfl) mi_X4_ofGreatest (As := [aL v4, aI x.2.1]) (rest := []) (ct_X4_ofGreatest v4 x.2.1 x.2.2 (OK_bind hh)) (by decide) ⟨Nat.zero_le _, Nat.zero_le _⟩ rfl rfl (Nat.le_of_ble_eq_true rfl) (by decide) rfl (by decide) rfl (fun r F' h' hq1 => ?_)
      obtain ⟨rfl, rfl, hh⟩ := hq1
      obtain ⟨r5, rfl⟩ : ∃ z, z = h' := ⟨_, rfl⟩
      refine A_blk hM.1 3 (lv1 := [some (aR 0), none, some (aI v2), some (aI v3), some (aL v4), none, some (aI x.1), some (aI x.2.1)]) (s1 := [aI v2, aR 52]) (h1 := r5) rfl ?_
      refine A_callV hM rfl rfl (mem_GW 1410 (by decide +kernel) rfl) mi_X4_notBelow (As := [aI v2]) (rest := []) (ct_X4_notBelow v2 r5 (OK_bind hh)) (by decide) ⟨Nat.zero_le _, Nat.zero_le _⟩ rfl rfl (Nat.le_of_ble_eq_true rfl) (by decide) rfl (by decide) rfl (fun r F' h' hq1 => ?_)
      obtain ⟨rfl, r6, rfl, e9, hh⟩ := hq1
      subst h'
      refine A_ifc hM.1 rfl rfl (fun hc => ?_) (fun hc => ?_)
      · replace hh := OK_t hh hc
        exact c_X11_span_j51 hM v2 v3 v4 x.1 x.2.1 r5 hin hout0 hh
      · replace hh := OK_f hh hc
        refine A_blk hM.1 2 (lv1 := [some (aR 0), none, some (aI v2), some (aI v3), some (aL v4), none, some (aI x.1), some (aI x.2.1)]) (s1 := [aI (-2), aI x.1]) (h1 := r5) rfl ?_
        refine A_icmp hM.1 rfl rfl (fun hc => ?_) (fun hc => ?_)
        · replace hh := OK_t hh hc
          refine A_mask [true, true, true, true, true, true, false, true] (lv1 := [some (aR 0), none, some (aI v2), some (aI v3), some (aL v4), none, none, some (aI x.2.1)]) rfl ?_
          exact c_X11_span_j49 hM v2 v3 v4 x.2.1 r5 hin hout0 hh
        · replace hh := OK_f hh hc
          refine A_blk hM.1 2 (lv1 := [some (aR 0), none, some (aI v2), some (aI v3), some (aL v4), none, some (aI x.1), some (aI x.2.1)]) (s1 := [aI 1, aI v3]) (h1 := r5) rfl ?_
          refine A_icmp hM.1 rfl rfl (fun hc => ?_) (fun hc => ?_)
          · replace hh := OK_t hh hc
            exact c_X11_span_j51 hM v2 v3 v4 x.1 x.2.1 r5 hin hout0 hh
          · replace hh := OK_f hh hc
            refine A_mask [true, true, true, true, true, true, false, true] (lv1 := [some (aR 0), none, some (aI v2), some (aI v3), some (aL v4), none, none, some (aI x.2.1)]) rfl ?_
            exact c_X11_span_j49 hM v2 v3 v4 x.2.1 r5 hin hout0 hh

set_option maxRecDepth 20000 in
set_option maxHeartbeats 4000000 in
theorem c_X11_span {k0 : K0} {G : Gx} {Qp : Option AV → Fx → Hp → Prop} (hM : MB (KM k0 0 0 Qp) G M_X11_span 4) (v1 : Int) (v2 : Int) (v3 : Int) (h : Hp)   {P : (Int × Hp) → Prop} (hq : ∀ z : Int × Hp, P z → Qp (some (aI z.1)) FN z.2) (hh : OK (X11_span v1 v2 v3 h) P) : ATk (KM k0 0 0 Qp) FN 0 0 M_X11_span 0 [some (aR 0), some (aI v1), some (aI v2), some (aI v3), none, none, none, none] [] h := by
  unfold X11_span at hh
  refine A_blk hM.1 3 (lv1 := [some (aR 0), some (aI v1), some (aI v2), some (aI v3), none, none, none, none]) (s1 := [aI v1, aR 3]) (h1 := h) rfl ?_
  refine A_callV hM rfl rfl (mem_GW 632 (by decide +kernel) rfl) mi_X7_isWork (As := [aI v1]) (rest := []) (ct_X7_isWork v1 h (OK_bind hh)) (by decide) ⟨Nat.zero_le _, Nat.zero_le _⟩ rfl rfl (Nat.le_of_ble_eq_true rfl) (by decide) rfl (by decide) rfl (fun r F' h' hq1 => ?_)
  obtain ⟨rfl, r1, rfl, e9, hh⟩ := hq1
  subst h'
  refine A_ifc hM.1 rfl rfl (fun hc => ?_) (fun hc => ?_)
  · replace hh := OK_t hh hc
    refine A_blk hM.1 1 (lv1 := [some (aR 0), some (aI v1), some (aI v2), some (aI v3), none, none, none, none]) (s1 := [aI (-1)]) (h1 := h) rfl ?_
    exact A_reti hM.1 rfl rfl rfl (hq ((-1), h) hh)
  · replace hh := OK_f hh hc
    refine A_blk hM.1 3 (lv1 := [some (aR 0), some (aI v1), some (aI v2), some (aI v3), none, none, none, none]) (s1 := [aI 1000, aI 1, aI v2]) (h1 := h) rfl ?_
    refine A_callS hM rfl rfl (mem_GW 576 (by decide +kernel) rfl) mi_X11_within ms_X11_within (As := [aI v2, aI 1, aI 1000]) (rest := []) (ct_X11_within v2 1 1000 h (OK_bind hh)) (by decide) ⟨Nat.zero_le _, Nat.zero_le _⟩ rfl rfl (Nat.le_of_ble_eq_true rfl) (fun r F' h' hq1 => ?_)
    obtain ⟨rfl, r2, rfl, e9, hh⟩ := hq1
    subst h'
    refine A_ifc hM.1 rfl rfl (fun hc => ?_) (fun hc => ?_)
    · replace hh := OK_t hh hc
      refine A_blk hM.1 1 (lv1 := [some (aR 0), some (aI v1), some (aI v2), some (aI v3), none, none, none, none]) (s1 := [aI (-1)]) (h1 := h) rfl ?_
      exact A_reti hM.1 rfl rfl rfl (hq ((-1), h) hh)
    · replace hh := OK_f hh hc
      refine A_blk hM.1 3 (lv1 := [some (aR 0), some (aI v1), some (aI v2), some (aI v3), none, none, none, none]) (s1 := [aI 1, aI 0, aI v3]) (h1 := h) rfl ?_
      refine A_callS hM rfl rfl (mem_GW 576 (by decide +kernel) rfl) mi_X11_within ms_X11_within (As := [aI v3, aI 0, aI 1]) (rest := []) (ct_X11_within v3 0 1 h (OK_bind hh)) (by decide) ⟨Nat.zero_le _, Nat.zero_le _⟩ rfl rfl (Nat.le_of_ble_eq_true rfl) (fun r F' h' hq1 => ?_)
      obtain ⟨rfl, r3, rfl, e9, hh⟩ := hq1
      subst h'
      refine A_ifc hM.1 rfl rfl (fun hc => ?_) (fun hc => ?_)
      · replace hh := OK_t hh hc
        refine A_blk hM.1 3 (lv1 := [some (aR 0), some (aI v1), some (aI v2), some (aI v3), none, none, none, none]) (s1 := [aI v1, aR 3]) (h1 := h) rfl ?_
        refine A_callV hM rfl rfl (mem_GW 1389 (by decide +kernel) rfl) mi_X7_toldBooks (As := [aI v1]) (rest := []) (ct_X7_toldBooks v1 h (OK_bind hh)) (by decide) ⟨Nat.zero_le _, Nat.zero_le _⟩ rfl rfl (Nat.le_of_ble_eq_true rfl) (by decide) rfl (by decide) rfl (fun r F' h' hq1 => ?_)
        obtain ⟨rfl, r4, rfl, e9, hh⟩ := hq1
        subst h'
        refine A_blk hM.1 5 (lv1 := [some (aR 0), some (aI v1), some (aI v2), some (aI v3), some (aL r4), none, some (aI (-2)), some (aI 1)]) (s1 := []) (h1 := h) rfl ?_
        refine A_mask [true, false, true, true, true, true, true, true] (lv1 := [some (aR 0), none, some (aI v2), some (aI v3), some (aL r4), none, some (aI (-2)), some (aI 1)]) rfl ?_
        refine iter_ok (s := ((-2), 1, h)) (Gp := fun z => ATk (KM k0 0 0 Qp) FN 0 0 M_X11_span 26 [some (aR 0), none, some (aI v2), some (aI v3), some (aL r4), none, some (aI z.1), some (aI z.2.1)] [] z.2.2) (E := fun z => ATk (KM k0 0 0 Qp) FN 0 0 M_X11_span 53 [none, none, none, none, none, none, some (aI z.1), none] [] z.2) (fun z P1 g1 g2 g3 => c_X11_span_l26 hM v2 v3 r4 z g2 g3 g1) (OK_bind hh) (fun x7 hh => ?_)
        refine A_blk hM.1 1 (lv1 := [none, none, none, none, none, none, some (aI x7.1), none]) (s1 := [aI x7.1]) (h1 := x7.2) rfl ?_
        exact A_reti hM.1 rfl rfl rfl (hq (x7.1, x7.2) hh)
      · replace hh := OK_f hh hc
        refine A_blk hM.1 1 (lv1 := [some (aR 0), some (aI v1), some (aI v2), some (aI v3), none, none, none, none]) (s1 := [aI (-1)]) (h1 := h) rfl ?_
        exact A_reti hM.1 rfl rfl rfl (hq ((-1), h) hh)

set_option maxRecDepth 20000 in
set_option maxHeartbeats 4000000 in
theorem ct_X11_span {G : Gx} (v1 : Int) (v2 : Int) (v3 : Int) (h : Hp)   {P : (Int × Hp) → Prop} (hh : OK (X11_span v1 v2 v3 h) P) : CT G yX11_span M_X11_span 4 0 0 FN h [aR 0, aI v1, aI v2, aI v3] (fun r F' h' => F' = FN ∧ ∃ z, r = some (aI z.1) ∧ h' = z.2 ∧ P z) :=
  CT.of (by decide +kernel) rfl (Nat.le_of_ble_eq_true rfl) k_X11_span fun k0 _ _ hM => c_X11_span hM v1 v2 v3 h (fun z hz => ⟨rfl, z, rfl, rfl, hz⟩) hh

theorem mi_X11_nobody : MIv yX11_nobody M_X11_nobody 2 := ⟨⟨(mem_GW 1417 (by decide +kernel) rfl), (mem_GW 123 (by decide +kernel) rfl), by decide +kernel, by decide +kernel, by decide +kernel, by decide⟩, (mem_GW 1415 (by decide +kernel) rfl), (mem_GW 1416 (by decide +kernel) rfl)⟩
set_option maxRecDepth 20000 in
set_option maxHeartbeats 4000000 in
theorem c_X11_nobody {k0 : K0} {G : Gx} {Qp : Option AV → Fx → Hp → Prop} (hM : MB (KM k0 0 0 Qp) G M_X11_nobody 4) (v1 : Int) (v2 : Int) (h : Hp)   {P : Int → Prop} (hq : ∀ z : Int, P z → Qp (some (aL z)) FN h) (hh : OK (X11_nobody v1 v2 h) P) : ATk (KM k0 0 0 Qp) FN 0 0 M_X11_nobody 0 [some (aR 0), some (aI v1), some (aI v2)] [] h := by
  unfold X11_nobody at hh
  refine A_blk hM.1 3 (lv1 := [some (aR 0), some (aI v1), some (aI v2)]) (s1 := [aI v1, aR 3]) (h1 := h) rfl ?_
  refine A_callV hM rfl rfl (mem_GW 632 (by decide +kernel) rfl) mi_X7_isWork (As := [aI v1]) (rest := []) (ct_X7_isWork v1 h (OK_bind hh)) (by decide) ⟨Nat.zero_le _, Nat.zero_le _⟩ rfl rfl (Nat.le_of_ble_eq_true rfl) (by decide) rfl (by decide) rfl (fun r F' h' hq1 => ?_)
  obtain ⟨rfl, r1, rfl, e9, hh⟩ := hq1
  subst h'
  refine A_ifc hM.1 rfl rfl (fun hc => ?_) (fun hc => ?_)
  · replace hh := OK_t hh hc
    refine A_blk hM.1 1 (lv1 := [some (aR 0), some (aI v1), some (aI v2)]) (s1 := [aL (-1)]) (h1 := h) rfl ?_
    exact A_retl hM.1 rfl rfl rfl (hq (-1) hh)
  · replace hh := OK_f hh hc
    refine A_blk hM.1 3 (lv1 := [some (aR 0), some (aI v1), some (aI v2)]) (s1 := [aI 40, aI 1, aI v2]) (h1 := h) rfl ?_
    refine A_callS hM rfl rfl (mem_GW 576 (by decide +kernel) rfl) mi_X11_within ms_X11_within (As := [aI v2, aI 1, aI 40]) (rest := []) (ct_X11_within v2 1 40 h (OK_bind hh)) (by decide) ⟨Nat.zero_le _, Nat.zero_le _⟩ rfl rfl (Nat.le_of_ble_eq_true rfl) (fun r F' h' hq1 => ?_)
    obtain ⟨rfl, r2, rfl, e9, hh⟩ := hq1
    subst h'
    refine A_ifc hM.1 rfl rfl (fun hc => ?_) (fun hc => ?_)
    · replace hh := OK_t hh hc
      refine A_blk hM.1 8 (lv1 := [some (aR 0), some (aI v1), some (aI v2)]) (s1 := [aI v1, aR 3, aL ((shl64 1 v2) - 1)]) (h1 := h) rfl ?_
      refine A_callV hM rfl rfl (mem_GW 1389 (by decide +kernel) rfl) mi_X7_toldBooks (As := [aI v1]) (rest := [aL ((shl64 1 v2) - 1)]) (ct_X7_toldBooks v1 h (OK_bind hh)) (by decide) ⟨Nat.zero_le _, Nat.zero_le _⟩ rfl rfl (Nat.le_of_ble_eq_true rfl) (by decide) rfl (by decide) rfl (fun r F' h' hq1 => ?_)
      obtain ⟨rfl, r3, rfl, e9, hh⟩ := hq1
      subst h'
      refine A_blk hM.1 3 (lv1 := [some (aR 0), some (aI v1), some (aI v2)]) (s1 := [aL (and64 ((shl64 1 v2) - 1) (xor64 r3 (-1)))]) (h1 := h) rfl ?_
      exact A_retl hM.1 rfl rfl rfl (hq (and64 ((shl64 1 v2) - 1) (xor64 r3 (-1))) hh)
    · replace hh := OK_f hh hc
      refine A_blk hM.1 1 (lv1 := [some (aR 0), some (aI v1), some (aI v2)]) (s1 := [aL (-1)]) (h1 := h) rfl ?_
      exact A_retl hM.1 rfl rfl rfl (hq (-1) hh)

set_option maxRecDepth 20000 in
set_option maxHeartbeats 4000000 in
theorem ct_X11_nobody {G : Gx} (v1 : Int) (v2 : Int) (h : Hp)   {P : Int → Prop} (hh : OK (X11_nobody v1 v2 h) P) : CT G yX11_nobody M_X11_nobody 4 0 0 FN h [aR 0, aI v1, aI v2] (fun r F' h' => F' = FN ∧ ∃ z, r = some (aL z) ∧ h' = h ∧ P z) :=
  CT.of (by decide +kernel) rfl (Nat.le_of_ble_eq_true rfl) k_X11_nobody fun k0 _ _ hM => c_X11_nobody hM v1 v2 h (fun z hz => ⟨rfl, z, rfl, rfl, hz⟩) hh

theorem mi_X7_authors : MIv yX7_authors M_X7_authors 0 := ⟨⟨(mem_GW 1425 (by decide +kernel) rfl), (mem_GW 125 (by decide +kernel) rfl), by decide +kernel, by decide +kernel, by decide +kernel, by decide⟩, (mem_GW 1423 (by decide +kernel) rfl), (mem_GW 1424 (by decide +kernel) rfl)⟩
set_option maxRecDepth 20000 in
set_option maxHeartbeats 4000000 in
theorem c_X7_authors {k0 : K0} {G : Gx} {Qp : Option AV → Fx → Hp → Prop} (hM : MB (KM k0 0 0 Qp) G M_X7_authors 1) (h : Hp)   {P : Int → Prop} (hq : ∀ z : Int, P z → Qp (some (aI z)) FN h) (hh : OK (X7_authors h) P) : ATk (KM k0 0 0 Qp) FN 0 0 M_X7_authors 0 [some (aR 3)] [] h := by
  unfold X7_authors at hh
  refine A_blk hM.1 2 (lv1 := [some (aR 3)]) (s1 := [aI (h 3 0)]) (h1 := h) rfl ?_
  exact A_reti hM.1 rfl rfl rfl (hq (h 3 0) hh)

set_option maxRecDepth 20000 in
set_option maxHeartbeats 4000000 in
theorem ct_X7_authors {G : Gx} (h : Hp)   {P : Int → Prop} (hh : OK (X7_authors h) P) : CT G yX7_authors M_X7_authors 1 0 0 FN h [aR 3] (fun r F' h' => F' = FN ∧ ∃ z, r = some (aI z) ∧ h' = h ∧ P z) :=
  CT.of (by decide +kernel) rfl (Nat.le_of_ble_eq_true rfl) k_X7_authors fun k0 _ _ hM => c_X7_authors hM h (fun z hz => ⟨rfl, z, rfl, rfl, hz⟩) hh

theorem mi_X7_authorOf : MIv yX7_authorOf M_X7_authorOf 1 := ⟨⟨(mem_GW 1443 (by decide +kernel) rfl), (mem_GW 125 (by decide +kernel) rfl), by decide +kernel, by decide +kernel, by decide +kernel, by decide⟩, (mem_GW 1441 (by decide +kernel) rfl), (mem_GW 1442 (by decide +kernel) rfl)⟩
set_option maxRecDepth 20000 in
set_option maxHeartbeats 4000000 in
theorem c_X7_authorOf {k0 : K0} {G : Gx} {Qp : Option AV → Fx → Hp → Prop} (hM : MB (KM k0 0 0 Qp) G M_X7_authorOf 2) (v1 : Int) (h : Hp)   {P : Int → Prop} (hq : ∀ z : Int, P z → Qp (some (aI z)) FN h) (hh : OK (X7_authorOf v1 h) P) : ATk (KM k0 0 0 Qp) FN 0 0 M_X7_authorOf 0 [some (aR 3), some (aI v1)] [] h := by
  unfold X7_authorOf at hh
  refine A_blk hM.1 2 (lv1 := [some (aR 3), some (aI v1)]) (s1 := [aI v1, aR 3]) (h1 := h) rfl ?_
  refine A_callV hM rfl rfl (mem_GW 640 (by decide +kernel) rfl) mi_X7_isWork (As := [aI v1]) (rest := []) (ct_X7_isWork v1 h (OK_bind hh)) (by decide) ⟨Nat.zero_le _, Nat.zero_le _⟩ rfl rfl (Nat.le_of_ble_eq_true rfl) (by decide) rfl (by decide) rfl (fun r F' h' hq1 => ?_)
  obtain ⟨rfl, r1, rfl, e9, hh⟩ := hq1
  subst h'
  refine A_ifc hM.1 rfl rfl (fun hc => ?_) (fun hc => ?_)
  · replace hh := OK_t hh hc
    refine A_blk hM.1 1 (lv1 := [some (aR 3), some (aI v1)]) (s1 := [aI (-1)]) (h1 := h) rfl ?_
    exact A_reti hM.1 rfl rfl rfl (hq (-1) hh)
  · replace hh := OK_f hh hc
    refine A_blk hM.1 3 (lv1 := [some (aR 3), some (aI v1)]) (s1 := [aI v1, aR 6]) (h1 := h) rfl ?_
    refine A_callSN (host := "QuotedBooks") hM rfl rfl (mem_NW 641 (by decide +kernel) rfl) mi_X11_at ms_X11_at (As := [aR 6, aI v1]) (rest := []) (ct_X11_at 6 8 v1 h rfl rfl (OK_bind hh)) (by decide) ⟨Nat.zero_le _, Nat.zero_le _⟩ rfl rfl (Nat.le_of_ble_eq_true rfl) (fun r F' h' hq1 => ?_)
    obtain ⟨rfl, r2, rfl, e9, hh⟩ := hq1
    subst h'
    refine A_go hM.1 rfl rfl ?_
    exact A_reti hM.1 rfl rfl rfl (hq r2 hh)

set_option maxRecDepth 20000 in
set_option maxHeartbeats 4000000 in
theorem ct_X7_authorOf {G : Gx} (v1 : Int) (h : Hp)   {P : Int → Prop} (hh : OK (X7_authorOf v1 h) P) : CT G yX7_authorOf M_X7_authorOf 2 0 0 FN h [aR 3, aI v1] (fun r F' h' => F' = FN ∧ ∃ z, r = some (aI z) ∧ h' = h ∧ P z) :=
  CT.of (by decide +kernel) rfl (Nat.le_of_ble_eq_true rfl) k_X7_authorOf fun k0 _ _ hM => c_X7_authorOf hM v1 h (fun z hz => ⟨rfl, z, rfl, rfl, hz⟩) hh

theorem mi_X0_addUse : MIv yX0_addUse M_X0_addUse 1 := ⟨⟨(mem_GW 1449 (by decide +kernel) rfl), (mem_GW 133 (by decide +kernel) rfl), by decide +kernel, by decide +kernel, by decide +kernel, by decide⟩, (mem_GW 1448 (by decide +kernel) rfl), (mem_GW 49 (by decide +kernel) rfl)⟩
set_option maxRecDepth 20000 in
set_option maxHeartbeats 4000000 in
theorem c_X0_addUse {k0 : K0} {G : Gx} {Qp : Option AV → Fx → Hp → Prop} (hM : MB (KM k0 0 0 Qp) G M_X0_addUse 2) (v1 : Int) (h : Hp)   {P : Hp → Prop} (hq : ∀ z : Hp, P z → Qp none FN z) (hh : OK (X0_addUse v1 h) P) : ATk (KM k0 0 0 Qp) FN 0 0 M_X0_addUse 0 [some (aR 77), some (aI v1)] [] h := by
  unfold X0_addUse at hh
  refine A_blk hM.1 6 (lv1 := [some (aR 77), some (aI v1)]) (s1 := [aI v1, aR 78, aI v1, aR 78]) (h1 := h) rfl ?_
  refine A_callSN (host := "QuotedBooks") hM rfl rfl (mem_NW 1450 (by decide +kernel) rfl) mi_X11_at ms_X11_at (As := [aR 78, aI v1]) (rest := [aI v1, aR 78]) (ct_X11_at 78 64 v1 h rfl rfl (OK_bind hh)) (by decide) ⟨Nat.zero_le _, Nat.zero_le _⟩ rfl rfl (Nat.le_of_ble_eq_true rfl) (fun r F' h' hq1 => ?_)
  obtain ⟨rfl, r1, rfl, e9, hh⟩ := hq1
  subst h'
  refine A_blk hM.1 2 (lv1 := [some (aR 77), some (aI v1)]) (s1 := [aI (r1 + 1), aI v1, aR 78]) (h1 := h) rfl ?_
  refine A_callSN (host := "QuotedBooks") hM rfl rfl (mem_NW 1451 (by decide +kernel) rfl) mi_X11_put ms_X11_put (As := [aR 78, aI v1, aI (r1 + 1)]) (rest := []) (ct_X11_put 78 64 v1 (r1 + 1) h rfl rfl (OK_bind hh)) (by decide) ⟨Nat.zero_le _, Nat.zero_le _⟩ rfl rfl (Nat.le_of_ble_eq_true rfl) (fun r F' h' hq1 => ?_)
  obtain ⟨rfl, rfl, hh⟩ := hq1
  obtain ⟨r2, rfl⟩ : ∃ z, z = h' := ⟨_, rfl⟩
  refine A_blk hM.1 6 (lv1 := [some (aR 77), some (aI v1)]) (s1 := []) (h1 := setH r2 77 3 ((r2 77 3) + 1)) rfl ?_
  exact A_retv hM.1 rfl rfl rfl (hq (setH r2 77 3 ((r2 77 3) + 1)) hh)

set_option maxRecDepth 20000 in
set_option maxHeartbeats 4000000 in
theorem ct_X0_addUse {G : Gx} (v1 : Int) (h : Hp)   {P : Hp → Prop} (hh : OK (X0_addUse v1 h) P) : CT G yX0_addUse M_X0_addUse 2 0 0 FN h [aR 77, aI v1] (fun r F' h' => F' = FN ∧ r = none ∧ P h') :=
  CT.of (by decide +kernel) rfl (Nat.le_of_ble_eq_true rfl) k_X0_addUse fun k0 _ _ hM => c_X0_addUse hM v1 h (fun z hz => ⟨rfl, rfl, hz⟩) hh

theorem mi_X0_gatherUses : MIv yX0_gatherUses M_X0_gatherUses 2 := ⟨⟨(mem_GW 1438 (by decide +kernel) rfl), (mem_GW 133 (by decide +kernel) rfl), by decide +kernel, by decide +kernel, by decide +kernel, by decide⟩, (mem_GW 1437 (by decide +kernel) rfl), (mem_GW 48 (by decide +kernel) rfl)⟩
set_option maxRecDepth 20000 in
set_option maxHeartbeats 4000000 in
theorem c_X0_gatherUses_l5 {k0 : K0} {G : Gx} {Qp : Option AV → Fx → Hp → Prop} (hM : MB (KM k0 0 0 Qp) G M_X0_gatherUses 3) (v1 : Int) (v2 : Int) (x : Int × Hp)   {P : ((Int × Hp) ⊕ (Hp)) → Prop} (hin : ∀ y : Int × Hp, P (.inl y) → ATk (KM k0 0 0 Qp) FN 0 0 M_X0_gatherUses 5 [some (aR 77), some (aI v1), some (aI v2), some (aI y.1), none, none] [] y.2) (hout0 : ∀ y : Hp, P (.inr y) → ATk (KM k0 0 0 Qp) FN 0 0 M_X0_gatherUses 15 [some (aR 77), some (aI v1), some (aI v2), none, none, none] [] y) (hh : OK (X0_gatherUses_l5 v1 v2 x) P) : ATk (KM k0 0 0 Qp) FN 0 0 M_X0_gatherUses 5 [some (aR 77), some (aI v1), some (aI v2), some (aI x.1), none, none] [] x.2 := by
  unfold X0_gatherUses_l5 at hh
  refine A_blk hM.1 2 (lv1 := [some (aR 77), some (aI v1), some (aI v2), some (aI x.1), none, none]) (s1 := [aI 64, aI x.1]) (h1 := x.2) rfl ?_
  refine A_icmp hM.1 rfl rfl (fun hc => ?_) (fun hc => ?_)
  · replace hh := OK_t hh hc
    refine A_mask [true, true, true, false, true, true] (lv1 := [some (aR 77), some (aI v1), some (aI v2), none, none, none]) rfl ?_
    exact hout0 x.2 hh
  · replace hh := OK_f hh hc
    refine A_blk hM.1 4 (lv1 := [some (aR 77), some (aI v1), some (aI v2), some (aI x.1), none, none]) (s1 := [aI 0, aI x.1, aR 78]) (h1 := x.2) rfl ?_
    obtain ⟨g1, hh⟩ := OK_g hh
    refine A_ast hM.1 rfl (Or.inl ⟨rfl, rfl, rfl⟩) rfl rfl rfl g1 ?_
    refine A_blk hM.1 1 (lv1 := [some (aR 77), some (aI v1), some (aI v2), some (aI (x.1 + 1)), none, none]) (s1 := []) (h1 := setH x.2 78 ((w32 x.1).toNat) 0) rfl ?_
    refine A_go hM.1 rfl rfl ?_
    exact hin (x.1 + 1, setH x.2 78 ((w32 x.1).toNat) 0) hh

set_option maxRecDepth 20000 in
set_option maxHeartbeats 4000000 in
theorem c_X0_gatherUses_l24 {k0 : K0} {G : Gx} {Qp : Option AV → Fx → Hp → Prop} (hM : MB (KM k0 0 0 Qp) G M_X0_gatherUses 3) (v1 : Int) (v2 : Int) (v3 : Int) (x : Int × Hp)   {P : ((Int × Hp) ⊕ (Hp)) → Prop} (hin : ∀ y : Int × Hp, P (.inl y) → ATk (KM k0 0 0 Qp) FN 0 0 M_X0_gatherUses 24 [some (aR 77), some (aI v1), some (aI v2), some (aI v3), some (aI y.1), none] [] y.2) (hout0 : ∀ y : Hp, P (.inr y) → ATk (KM k0 0 0 Qp) FN 0 0 M_X0_gatherUses 45 [some (aR 77), some (aI v1), some (aI v2), some (aI v3), none, none] [] y) (hh : OK (X0_gatherUses_l24 v1 v2 v3 x) P) : ATk (KM k0 0 0 Qp) FN 0 0 M_X0_gatherUses 24 [some (aR 77), some (aI v1), some (aI v2), some (aI v3), some (aI x.1), none] [] x.2 := by
  unfold X0_gatherUses_l24 at hh
  refine A_blk hM.1 3 (lv1 := [some (aR 77), some (aI v1), some (aI v2), some (aI v3), some (aI x.1), none]) (s1 := [aI v3, aR 3]) (h1 := x.2) rfl ?_
  refine A_callV hM rfl rfl (mem_GW 1440 (by decide +kernel) rfl) mi_X7_authorOf (As := [aI v3]) (rest := []) (ct_X7_authorOf v3 x.2 (OK_bind hh)) (by decide) ⟨Nat.zero_le _, Nat.zero_le _⟩ rfl rfl (Nat.le_of_ble_eq_true rfl) (by decide) rfl (by decide) rfl (fun r F' h' hq1 => ?_)
  obtain ⟨rfl, r4, rfl, e9, hh⟩ := hq1
  subst h'
  refine A_blk hM.1 1 (lv1 := [some (aR 77), some (aI v1), some (aI v2), some (aI v3), some (aI x.1), none]) (s1 := [aI v1, aI r4]) (h1 := x.2) rfl ?_
  refine A_icmp hM.1 rfl rfl (fun hc => ?_) (fun hc => ?_)
  · replace hh := OK_t hh hc
    refine A_mask [true, true, true, true, false, true] (lv1 := [some (aR 77), some (aI v1), some (aI v2), some (aI v3), none, none]) rfl ?_
    exact hout0 x.2 hh
  · replace hh := OK_f hh hc
    refine A_blk hM.1 4 (lv1 := [some (aR 77), some (aI v1), some (aI v2), some (aI v3), some (aI x.1), none]) (s1 := [aI v3, aR 3, aI x.1]) (h1 := x.2) rfl ?_
    refine A_callV hM rfl rfl (mem_GW 1444 (by decide +kernel) rfl) mi_X7_wordsLeft (As := [aI v3]) (rest := [aI x.1]) (ct_X7_wordsLeft v3 x.2 (OK_bind hh)) (by decide) ⟨Nat.zero_le _, Nat.zero_le _⟩ rfl rfl (Nat.le_of_ble_eq_true rfl) (by decide) rfl (by decide) rfl (fun r F' h' hq1 => ?_)
    obtain ⟨rfl, r5, rfl, e9, hh⟩ := hq1
    subst h'
    refine A_icmp hM.1 rfl rfl (fun hc => ?_) (fun hc => ?_)
    · replace hh := OK_t hh hc
      refine A_mask [true, true, true, true, false, true] (lv1 := [some (aR 77), some (aI v1), some (aI v2), some (aI v3), none, none]) rfl ?_
      exact hout0 x.2 hh
    · replace hh := OK_f hh hc
      refine A_blk hM.1 5 (lv1 := [some (aR 77), some (aI v1), some (aI v2), some (aI v3), some (aI x.1), none]) (s1 := [aI x.1, aI v3, aR 3, aR 77]) (h1 := x.2) rfl ?_
      refine A_callV hM rfl rfl (mem_GW 1445 (by decide +kernel) rfl) mi_X7_workWord (As := [aI v3, aI x.1]) (rest := [aR 77]) (ct_X7_workWord v3 x.1 x.2 (OK_bind hh)) (by decide) ⟨Nat.zero_le _, Nat.zero_le _⟩ rfl rfl (Nat.le_of_ble_eq_true rfl) (by decide) rfl (by decide) rfl (fun r F' h' hq1 => ?_)
      obtain ⟨rfl, r6, rfl, e9, hh⟩ := hq1
      subst h'
      refine A_callV hM rfl rfl (mem_GW 1446 (by decide +kernel) rfl) mi_X0_addUse (As := [aI r6]) (rest := []) (ct_X0_addUse r6 x.2 (OK_bind hh)) (by decide) ⟨Nat.zero_le _, Nat.zero_le _⟩ rfl rfl (Nat.le_of_ble_eq_true rfl) (by decide) rfl (by decide) rfl (fun r F' h' hq1 => ?_)
      obtain ⟨rfl, rfl, hh⟩ := hq1
      obtain ⟨r7, rfl⟩ : ∃ z, z = h' := ⟨_, rfl⟩
      refine A_blk hM.1 1 (lv1 := [some (aR 77), some (aI v1), some (aI v2), some (aI v3), some (aI (x.1 + 1)), none]) (s1 := []) (h1 := r7) rfl ?_
      refine A_go hM.1 rfl rfl ?_
      exact hin (x.1 + 1, r7) hh

set_option maxRecDepth 20000 in
set_option maxHeartbeats 4000000 in
theorem c_X0_gatherUses_l17 {k0 : K0} {G : Gx} {Qp : Option AV → Fx → Hp → Prop} (hM : MB (KM k0 0 0 Qp) G M_X0_gatherUses 3) (v1 : Int) (v2 : Int) (x : Int × Hp)   {P : ((Int × Hp) ⊕ (Hp)) → Prop} (hin : ∀ y : Int × Hp, P (.inl y) → ATk (KM k0 0 0 Qp) FN 0 0 M_X0_gatherUses 17 [some (aR 77), some (aI v1), some (aI v2), some (aI y.1), none, none] [] y.2) (hout0 : ∀ y : Hp, P (.inr y) → ATk (KM k0 0 0 Qp) FN 0 0 M_X0_gatherUses 47 [some (aR 77), some (aI v1), some (aI v2), none, none, none] [] y) (hh : OK (X0_gatherUses_l17 v1 v2 x) P) : ATk (KM k0 0 0 Qp) FN 0 0 M_X0_gatherUses 17 [some (aR 77), some (aI v1), some (aI v2), some (aI x.1), none, none] [] x.2 := by
  unfold X0_gatherUses_l17 at hh
  refine A_blk hM.1 3 (lv1 := [some (aR 77), some (aI v1), some (aI v2), some (aI x.1), none, none]) (s1 := [aR 3, aI x.1]) (h1 := x.2) rfl ?_
  refine A_callV hM rfl rfl (mem_GW 1439 (by decide +kernel) rfl) mi_X7_works (As := []) (rest := [aI x.1]) (ct_X7_works x.2 (OK_bind hh)) (by decide) ⟨Nat.zero_le _, Nat.zero_le _⟩ rfl rfl (Nat.le_of_ble_eq_true rfl) (by decide) rfl (by decide) rfl (fun r F' h' hq1 => ?_)
  obtain ⟨rfl, r3, rfl, e9, hh⟩ := hq1
  subst h'
  refine A_icmp hM.1 rfl rfl (fun hc => ?_) (fun hc => ?_)
  · replace hh := OK_t hh hc
    refine A_mask [true, true, true, false, true, true] (lv1 := [some (aR 77), some (aI v1), some (aI v2), none, none, none]) rfl ?_
    exact hout0 x.2 hh
  · replace hh := OK_f hh hc
    refine A_blk hM.1 2 (lv1 := [some (aR 77), some (aI v1), some (aI v2), some (aI x.1), some (aI 0), none]) (s1 := []) (h1 := x.2) rfl ?_
    refine iter_ok (s := (0, x.2)) (Gp := fun z => ATk (KM k0 0 0 Qp) FN 0 0 M_X0_gatherUses 24 [some (aR 77), some (aI v1), some (aI v2), some (aI x.1), some (aI z.1), none] [] z.2) (E := fun z => ATk (KM k0 0 0 Qp) FN 0 0 M_X0_gatherUses 45 [some (aR 77), some (aI v1), some (aI v2), some (aI x.1), none, none] [] z) (fun z P1 g1 g2 g3 => c_X0_gatherUses_l24 hM v1 v2 x.1 z g2 g3 g1) (OK_bind hh) (fun x8 hh => ?_)
    refine A_blk hM.1 1 (lv1 := [some (aR 77), some (aI v1), some (aI v2), some (aI (x.1 + 1)), none, none]) (s1 := []) (h1 := x8) rfl ?_
    refine A_go hM.1 rfl rfl ?_
    exact hin (x.1 + 1, x8) hh

set_option maxRecDepth 20000 in
set_option maxHeartbeats 4000000 in
theorem c_X0_gatherUses_l72 {k0 : K0} {G : Gx} {Qp : Option AV → Fx → Hp → Prop} (hM : MB (KM k0 0 0 Qp) G M_X0_gatherUses 3) (v1 : Int) (v2 : Int) (v3 : Int) (v4 : Int) (x : Int × Hp)   {P : ((Int × Hp) ⊕ (Hp)) → Prop} (hin : ∀ y : Int × Hp, P (.inl y) → ATk (KM k0 0 0 Qp) FN 0 0 M_X0_gatherUses 72 [some (aR 77), some (aI v1), some (aI v2), some (aI v3), some (aI v4), some (aI y.1)] [] y.2) (hout0 : ∀ y : Hp, P (.inr y) → ATk (KM k0 0 0 Qp) FN 0 0 M_X0_gatherUses 89 [some (aR 77), some (aI v1), some (aI v2), some (aI v3), none, none] [] y) (hh : OK (X0_gatherUses_l72 v1 v2 v3 v4 x) P) : ATk (KM k0 0 0 Qp) FN 0 0 M_X0_gatherUses 72 [some (aR 77), some (aI v1), some (aI v2), some (aI v3), some (aI v4), some (aI x.1)] [] x.2 := by
  unfold X0_gatherUses_l72 at hh
  refine A_blk hM.1 1 (lv1 := [some (aR 77), some (aI v1), some (aI v2), some (aI v3), some (aI v4), some (aI x.1)]) (s1 := [aI v4]) (h1 := x.2) rfl ?_
  refine A_ifc hM.1 rfl rfl (fun hc => ?_) (fun hc => ?_)
  · replace hh := OK_t hh hc
    refine A_mask [true, true, true, true, false, false] (lv1 := [some (aR 77), some (aI v1), some (aI v2), some (aI v3), none, none]) rfl ?_
    exact hout0 x.2 hh
  · replace hh := OK_f hh hc
    refine A_blk hM.1 4 (lv1 := [some (aR 77), some (aI v1), some (aI v2), some (aI v3), some (aI v4), some (aI x.1)]) (s1 := [aI v3, aR 3, aI x.1]) (h1 := x.2) rfl ?_
    refine A_callV hM rfl rfl (mem_GW 1454 (by decide +kernel) rfl) mi_X7_bitSize (As := [aI v3]) (rest := [aI x.1]) (ct_X7_bitSize v3 x.2 (OK_bind hh)) (by decide) ⟨Nat.zero_le _, Nat.zero_le _⟩ rfl rfl (Nat.le_of_ble_eq_true rfl) (by decide) rfl (by decide) rfl (fun r F' h' hq1 => ?_)
    obtain ⟨rfl, r11, rfl, e9, hh⟩ := hq1
    subst h'
    refine A_icmp hM.1 rfl rfl (fun hc => ?_) (fun hc => ?_)
    · replace hh := OK_t hh hc
      refine A_mask [true, true, true, true, false, false] (lv1 := [some (aR 77), some (aI v1), some (aI v2), some (aI v3), none, none]) rfl ?_
      exact hout0 x.2 hh
    · replace hh := OK_f hh hc
      refine A_blk hM.1 5 (lv1 := [some (aR 77), some (aI v1), some (aI v2), some (aI v3), some (aI v4), some (aI x.1)]) (s1 := [aI x.1, aI v3, aR 3, aR 77]) (h1 := x.2) rfl ?_
      refine A_callV hM rfl rfl (mem_GW 1455 (by decide +kernel) rfl) mi_X7_bitWord (As := [aI v3, aI x.1]) (rest := [aR 77]) (ct_X7_bitWord v3 x.1 x.2 (OK_bind hh)) (by decide) ⟨Nat.zero_le _, Nat.zero_le _⟩ rfl rfl (Nat.le_of_ble_eq_true rfl) (by decide) rfl (by decide) rfl (fun r F' h' hq1 => ?_)
      obtain ⟨rfl, r12, rfl, e9, hh⟩ := hq1
      subst h'
      refine A_callV hM rfl rfl (mem_GW 1446 (by decide +kernel) rfl) mi_X0_addUse (As := [aI r12]) (rest := []) (ct_X0_addUse r12 x.2 (OK_bind hh)) (by decide) ⟨Nat.zero_le _, Nat.zero_le _⟩ rfl rfl (Nat.le_of_ble_eq_true rfl) (by decide) rfl (by decide) rfl (fun r F' h' hq1 => ?_)
      obtain ⟨rfl, rfl, hh⟩ := hq1
      obtain ⟨r13, rfl⟩ : ∃ z, z = h' := ⟨_, rfl⟩
      refine A_blk hM.1 1 (lv1 := [some (aR 77), some (aI v1), some (aI v2), some (aI v3), some (aI v4), some (aI (x.1 + 1))]) (s1 := []) (h1 := r13) rfl ?_
      refine A_go hM.1 rfl rfl ?_
      exact hin (x.1 + 1, r13) hh

set_option maxRecDepth 20000 in
set_option maxHeartbeats 4000000 in
theorem c_X0_gatherUses_j69 {k0 : K0} {G : Gx} {Qp : Option AV → Fx → Hp → Prop} (hM : MB (KM k0 0 0 Qp) G M_X0_gatherUses 3) (v1 : Int) (v2 : Int) (v3 : Int) (s0 : Int) (h : Hp)   {P : ((Int × Hp) ⊕ (Hp)) → Prop} (hin : ∀ y : Int × Hp, P (.inl y) → ATk (KM k0 0 0 Qp) FN 0 0 M_X0_gatherUses 49 [some (aR 77), some (aI v1), some (aI v2), some (aI y.1), none, none] [] y.2) (hout0 : ∀ y : Hp, P (.inr y) → ATk (KM k0 0 0 Qp) FN 0 0 M_X0_gatherUses 91 [none, none, none, none, none, none] [] y) (hh : OK (X0_gatherUses_j69 v1 v2 v3 s0 h) P) : ATk (KM k0 0 0 Qp) FN 0 0 M_X0_gatherUses 69 [some (aR 77), some (aI v1), some (aI v2), some (aI v3), none, none] [aI s0] h := by
  unfold X0_gatherUses_j69 at hh
  refine A_blk hM.1 3 (lv1 := [some (aR 77), some (aI v1), some (aI v2), some (aI v3), some (aI s0), some (aI 0)]) (s1 := []) (h1 := h) rfl ?_
  refine iter_ok (s := (0, h)) (Gp := fun z => ATk (KM k0 0 0 Qp) FN 0 0 M_X0_gatherUses 72 [some (aR 77), some (aI v1), some (aI v2), some (aI v3), some (aI s0), some (aI z.1)] [] z.2) (E := fun z => ATk (KM k0 0 0 Qp) FN 0 0 M_X0_gatherUses 89 [some (aR 77), some (aI v1), some (aI v2), some (aI v3), none, none] [] z) (fun z P1 g1 g2 g3 => c_X0_gatherUses_l72 hM v1 v2 v3 s0 z g2 g3 g1) (OK_bind hh) (fun x14 hh => ?_)
  refine A_blk hM.1 1 (lv1 := [some (aR 77), some (aI v1), some (aI v2), some (aI (v3 + 1)), none, none]) (s1 := []) (h1 := x14) rfl ?_
  refine A_go hM.1 rfl rfl ?_
  exact hin (v3 + 1, x14) hh

set_option maxRecDepth 20000 in
set_option maxHeartbeats 4000000 in
theorem c_X0_gatherUses_j68 {k0 : K0} {G : Gx} {Qp : Option AV → Fx → Hp → Prop} (hM : MB (KM k0 0 0 Qp) G M_X0_gatherUses 3) (v1 : Int) (v2 : Int) (v3 : Int) (h : Hp)   {P : ((Int × Hp) ⊕ (Hp)) → Prop} (hin : ∀ y : Int × Hp, P (.inl y) → ATk (KM k0 0 0 Qp) FN 0 0 M_X0_gatherUses 49 [some (aR 77), some (aI v1), some (aI v2), some (aI y.1), none, none] [] y.2) (hout0 : ∀ y : Hp, P (.inr y) → ATk (KM k0 0 0 Qp) FN 0 0 M_X0_gatherUses 91 [none, none, none, none, none, none] [] y) (hh : OK (X0_gatherUses_j68 v1 v2 v3 h) P) : ATk (KM k0 0 0 Qp) FN 0 0 M_X0_gatherUses 68 [some (aR 77), some (aI v1), some (aI v2), some (aI v3), none, none] [] h := by
  unfold X0_gatherUses_j68 at hh
  refine A_blk hM.1 1 (lv1 := [some (aR 77), some (aI v1), some (aI v2), some (aI v3), none, none]) (s1 := [aI 0]) (h1 := h) rfl ?_
  exact c_X0_gatherUses_j69 hM v1 v2 v3 0 h hin hout0 hh

set_option maxRecDepth 20000 in
set_option maxHeartbeats 4000000 in
theorem c_X0_gatherUses_l49 {k0 : K0} {G : Gx} {Qp : Option AV → Fx → Hp → Prop} (hM : MB (KM k0 0 0 Qp) G M_X0_gatherUses 3) (v1 : Int) (v2 : Int) (x : Int × Hp)   {P : ((Int × Hp) ⊕ (Hp)) → Prop} (hin : ∀ y : Int × Hp, P (.inl y) → ATk (KM k0 0 0 Qp) FN 0 0 M_X0_gatherUses 49 [some (aR 77), some (aI v1), some (aI v2), some (aI y.1), none, none] [] y.2) (hout0 : ∀ y : Hp, P (.inr y) → ATk (KM k0 0 0 Qp) FN 0 0 M_X0_gatherUses 91 [none, none, none, none, none, none] [] y) (hh : OK (X0_gatherUses_l49 v1 v2 x) P) : ATk (KM k0 0 0 Qp) FN 0 0 M_X0_gatherUses 49 [some (aR 77), some (aI v1), some (aI v2), some (aI x.1), none, none] [] x.2 := by
  unfold X0_gatherUses_l49 at hh
  refine A_blk hM.1 3 (lv1 := [some (aR 77), some (aI v1), some (aI v2), some (aI x.1), none, none]) (s1 := [aR 3, aI x.1]) (h1 := x.2) rfl ?_
  refine A_callV hM rfl rfl (mem_GW 1452 (by decide +kernel) rfl) mi_X7_bits (As := []) (rest := [aI x.1]) (ct_X7_bits x.2 (OK_bind hh)) (by decide) ⟨Nat.zero_le _, Nat.zero_le _⟩ rfl rfl (Nat.le_of_ble_eq_true rfl) (by decide) rfl (by decide) rfl (fun r F' h' hq1 => ?_)
  obtain ⟨rfl, r10, rfl, e9, hh⟩ := hq1
  subst h'
  refine A_icmp hM.1 rfl rfl (fun hc => ?_) (fun hc => ?_)
  · replace hh := OK_t hh hc
    refine A_mask [false, false, false, false, true, true] (lv1 := [none, none, none, none, none, none]) rfl ?_
    exact hout0 x.2 hh
  · replace hh := OK_f hh hc
    refine A_blk hM.1 2 (lv1 := [some (aR 77), some (aI v1), some (aI v2), some (aI x.1), none, none]) (s1 := [aI v2, aI x.1]) (h1 := x.2) rfl ?_
    refine A_icmp hM.1 rfl rfl (fun hc => ?_) (fun hc => ?_)
    · replace hh := OK_t hh hc
      exact c_X0_gatherUses_j68 hM v1 v2 x.1 x.2 hin hout0 hh
    · replace hh := OK_f hh hc
      refine A_blk hM.1 5 (lv1 := [some (aR 77), some (aI v1), some (aI v2), some (aI x.1), none, none]) (s1 := [aI x.1, aR 3, aR 3]) (h1 := x.2) rfl ?_
      refine A_callV hM rfl rfl (mem_GW 1453 (by decide +kernel) rfl) mi_X7_bitWork (As := [aI x.1]) (rest := [aR 3]) (ct_X7_bitWork x.1 x.2 (OK_bind hh)) (by decide) ⟨Nat.zero_le _, Nat.zero_le _⟩ rfl rfl (Nat.le_of_ble_eq_true rfl) (by decide) rfl (by decide) rfl (fun r F' h' hq1 => ?_)
      obtain ⟨rfl, r15, rfl, e9, hh⟩ := hq1
      subst h'
      refine A_callV hM rfl rfl (mem_GW 1440 (by decide +kernel) rfl) mi_X7_authorOf (As := [aI r15]) (rest := []) (ct_X7_authorOf r15 x.2 (OK_bind hh)) (by decide) ⟨Nat.zero_le _, Nat.zero_le _⟩ rfl rfl (Nat.le_of_ble_eq_true rfl) (by decide) rfl (by decide) rfl (fun r F' h' hq1 => ?_)
      obtain ⟨rfl, r16, rfl, e9, hh⟩ := hq1
      subst h'
      refine A_blk hM.1 1 (lv1 := [some (aR 77), some (aI v1), some (aI v2), some (aI x.1), none, none]) (s1 := [aI v1, aI r16]) (h1 := x.2) rfl ?_
      refine A_icmp hM.1 rfl rfl (fun hc => ?_) (fun hc => ?_)
      · replace hh := OK_t hh hc
        exact c_X0_gatherUses_j68 hM v1 v2 x.1 x.2 hin hout0 hh
      · replace hh := OK_f hh hc
        refine A_blk hM.1 1 (lv1 := [some (aR 77), some (aI v1), some (aI v2), some (aI x.1), none, none]) (s1 := [aI 1]) (h1 := x.2) rfl ?_
        refine A_go hM.1 rfl rfl ?_
        exact c_X0_gatherUses_j69 hM v1 v2 x.1 1 x.2 hin hout0 hh

set_option maxRecDepth 20000 in
set_option maxHeartbeats 4000000 in
theorem c_X0_gatherUses {k0 : K0} {G : Gx} {Qp : Option AV → Fx → Hp → Prop} (hM : MB (KM k0 0 0 Qp) G M_X0_gatherUses 3) (v1 : Int) (v2 : Int) (h : Hp)   {P : Hp → Prop} (hq : ∀ z : Hp, P z → Qp none FN z) (hh : OK (X0_gatherUses v1 v2 h) P) : ATk (KM k0 0 0 Qp) FN 0 0 M_X0_gatherUses 0 [some (aR 77), some (aI v1), some (aI v2), none, none, none] [] h := by
  unfold X0_gatherUses at hh
  refine A_blk hM.1 5 (lv1 := [some (aR 77), some (aI v1), some (aI v2), some (aI 0), none, none]) (s1 := []) (h1 := setH h 77 3 0) rfl ?_
  refine iter_ok (s := (0, setH h 77 3 0)) (Gp := fun z => ATk (KM k0 0 0 Qp) FN 0 0 M_X0_gatherUses 5 [some (aR 77), some (aI v1), some (aI v2), some (aI z.1), none, none] [] z.2) (E := fun z => ATk (KM k0 0 0 Qp) FN 0 0 M_X0_gatherUses 15 [some (aR 77), some (aI v1), some (aI v2), none, none, none] [] z) (fun z P1 g1 g2 g3 => c_X0_gatherUses_l5 hM v1 v2 z g2 g3 g1) (OK_bind hh) (fun x2 hh => ?_)
  refine A_blk hM.1 2 (lv1 := [some (aR 77), some (aI v1), some (aI v2), some (aI 0), none, none]) (s1 := []) (h1 := x2) rfl ?_
  refine iter_ok (s := (0, x2)) (Gp := fun z => ATk (KM k0 0 0 Qp) FN 0 0 M_X0_gatherUses 17 [some (aR 77), some (aI v1), some (aI v2), some (aI z.1), none, none] [] z.2) (E := fun z => ATk (KM k0 0 0 Qp) FN 0 0 M_X0_gatherUses 47 [some (aR 77), some (aI v1), some (aI v2), none, none, none] [] z) (fun z P1 g1 g2 g3 => c_X0_gatherUses_l17 hM v1 v2 z g2 g3 g1) (OK_bind hh) (fun x9 hh => ?_)
  refine A_blk hM.1 2 (lv1 := [some (aR 77), some (aI v1), some (aI v2), some (aI 0), none, none]) (s1 := []) (h1 := x9) rfl ?_
  refine iter_ok (s := (0, x9)) (Gp := fun z => ATk (KM k0 0 0 Qp) FN 0 0 M_X0_gatherUses 49 [some (aR 77), some (aI v1), some (aI v2), some (aI z.1), none, none] [] z.2) (E := fun z => ATk (KM k0 0 0 Qp) FN 0 0 M_X0_gatherUses 91 [none, none, none, none, none, none] [] z) (fun z P1 g1 g2 g3 => c_X0_gatherUses_l49 hM v1 v2 z g2 g3 g1) (OK_bind hh) (fun x17 hh => ?_)
  exact A_retv hM.1 rfl rfl rfl (hq x17 hh)

set_option maxRecDepth 20000 in
set_option maxHeartbeats 4000000 in
theorem ct_X0_gatherUses {G : Gx} (v1 : Int) (v2 : Int) (h : Hp)   {P : Hp → Prop} (hh : OK (X0_gatherUses v1 v2 h) P) : CT G yX0_gatherUses M_X0_gatherUses 3 0 0 FN h [aR 77, aI v1, aI v2] (fun r F' h' => F' = FN ∧ r = none ∧ P h') :=
  CT.of (by decide +kernel) rfl (Nat.le_of_ble_eq_true rfl) k_X0_gatherUses fun k0 _ _ hM => c_X0_gatherUses hM v1 v2 h (fun z hz => ⟨rfl, rfl, hz⟩) hh

theorem mi_X7_prior : MIv yX7_prior M_X7_prior 1 := ⟨⟨(mem_GW 1460 (by decide +kernel) rfl), (mem_GW 125 (by decide +kernel) rfl), by decide +kernel, by decide +kernel, by decide +kernel, by decide⟩, (mem_GW 1458 (by decide +kernel) rfl), (mem_GW 1459 (by decide +kernel) rfl)⟩
set_option maxRecDepth 20000 in
set_option maxHeartbeats 4000000 in
theorem c_X7_prior {k0 : K0} {G : Gx} {Qp : Option AV → Fx → Hp → Prop} (hM : MB (KM k0 0 0 Qp) G M_X7_prior 2) (v1 : Int) (h : Hp)   {P : Int → Prop} (hq : ∀ z : Int, P z → Qp (some (aI z)) FN h) (hh : OK (X7_prior v1 h) P) : ATk (KM k0 0 0 Qp) FN 0 0 M_X7_prior 0 [some (aR 3), some (aI v1)] [] h := by
  unfold X7_prior at hh
  refine A_blk hM.1 3 (lv1 := [some (aR 3), some (aI v1)]) (s1 := [aI v1, aR 5]) (h1 := h) rfl ?_
  refine A_callSN (host := "QuotedBooks") hM rfl rfl (mem_NW 641 (by decide +kernel) rfl) mi_X11_at ms_X11_at (As := [aR 5, aI v1]) (rest := []) (ct_X11_at 5 8 v1 h rfl rfl (OK_bind hh)) (by decide) ⟨Nat.zero_le _, Nat.zero_le _⟩ rfl rfl (Nat.le_of_ble_eq_true rfl) (fun r F' h' hq1 => ?_)
  obtain ⟨rfl, r1, rfl, e9, hh⟩ := hq1
  subst h'
  exact A_reti hM.1 rfl rfl rfl (hq r1 hh)

set_option maxRecDepth 20000 in
set_option maxHeartbeats 4000000 in
theorem ct_X7_prior {G : Gx} (v1 : Int) (h : Hp)   {P : Int → Prop} (hh : OK (X7_prior v1 h) P) : CT G yX7_prior M_X7_prior 2 0 0 FN h [aR 3, aI v1] (fun r F' h' => F' = FN ∧ ∃ z, r = some (aI z) ∧ h' = h ∧ P z) :=
  CT.of (by decide +kernel) rfl (Nat.le_of_ble_eq_true rfl) k_X7_prior fun k0 _ _ hM => c_X7_prior hM v1 h (fun z hz => ⟨rfl, z, rfl, rfl, hz⟩) hh

theorem mi_X7_authorYear : MIv yX7_authorYear M_X7_authorYear 1 := ⟨⟨(mem_GW 1464 (by decide +kernel) rfl), (mem_GW 125 (by decide +kernel) rfl), by decide +kernel, by decide +kernel, by decide +kernel, by decide⟩, (mem_GW 1462 (by decide +kernel) rfl), (mem_GW 1463 (by decide +kernel) rfl)⟩
set_option maxRecDepth 20000 in
set_option maxHeartbeats 4000000 in
theorem c_X7_authorYear {k0 : K0} {G : Gx} {Qp : Option AV → Fx → Hp → Prop} (hM : MB (KM k0 0 0 Qp) G M_X7_authorYear 2) (v1 : Int) (h : Hp)   {P : Int → Prop} (hq : ∀ z : Int, P z → Qp (some (aI z)) FN h) (hh : OK (X7_authorYear v1 h) P) : ATk (KM k0 0 0 Qp) FN 0 0 M_X7_authorYear 0 [some (aR 3), some (aI v1)] [] h := by
  unfold X7_authorYear at hh
  refine A_blk hM.1 3 (lv1 := [some (aR 3), some (aI v1)]) (s1 := [aI v1, aR 4]) (h1 := h) rfl ?_
  refine A_callSN (host := "QuotedBooks") hM rfl rfl (mem_NW 641 (by decide +kernel) rfl) mi_X11_at ms_X11_at (As := [aR 4, aI v1]) (rest := []) (ct_X11_at 4 8 v1 h rfl rfl (OK_bind hh)) (by decide) ⟨Nat.zero_le _, Nat.zero_le _⟩ rfl rfl (Nat.le_of_ble_eq_true rfl) (fun r F' h' hq1 => ?_)
  obtain ⟨rfl, r1, rfl, e9, hh⟩ := hq1
  subst h'
  exact A_reti hM.1 rfl rfl rfl (hq r1 hh)

set_option maxRecDepth 20000 in
set_option maxHeartbeats 4000000 in
theorem ct_X7_authorYear {G : Gx} (v1 : Int) (h : Hp)   {P : Int → Prop} (hh : OK (X7_authorYear v1 h) P) : CT G yX7_authorYear M_X7_authorYear 2 0 0 FN h [aR 3, aI v1] (fun r F' h' => F' = FN ∧ ∃ z, r = some (aI z) ∧ h' = h ∧ P z) :=
  CT.of (by decide +kernel) rfl (Nat.le_of_ble_eq_true rfl) k_X7_authorYear fun k0 _ _ hM => c_X7_authorYear hM v1 h (fun z hz => ⟨rfl, z, rfl, rfl, hz⟩) hh

theorem mi_X0_pointsFor : MIv yX0_pointsFor M_X0_pointsFor 2 := ⟨⟨(mem_GW 1434 (by decide +kernel) rfl), (mem_GW 133 (by decide +kernel) rfl), by decide +kernel, by decide +kernel, by decide +kernel, by decide⟩, (mem_GW 1433 (by decide +kernel) rfl), (mem_GW 47 (by decide +kernel) rfl)⟩
set_option maxRecDepth 20000 in
set_option maxHeartbeats 4000000 in
theorem c_X0_pointsFor_l30 {k0 : K0} {G : Gx} {Qp : Option AV → Fx → Hp → Prop} (hM : MB (KM k0 0 0 Qp) G M_X0_pointsFor 5) (v1 : Int) (x : Int × Int × Hp)   {P : ((Int × Int × Hp) ⊕ (Int × Hp)) → Prop} (hin : ∀ y : Int × Int × Hp, P (.inl y) → ATk (KM k0 0 0 Qp) FN 0 0 M_X0_pointsFor 30 [some (aR 77), some (aI v1), none, some (aI y.1), some (aI y.2.1), none] [] y.2.2) (hout0 : ∀ y : Int × Hp, P (.inr y) → ATk (KM k0 0 0 Qp) FN 0 0 M_X0_pointsFor 71 [none, none, none, some (aI y.1), none, none] [] y.2) (hh : OK (X0_pointsFor_l30 v1 x) P) : ATk (KM k0 0 0 Qp) FN 0 0 M_X0_pointsFor 30 [some (aR 77), some (aI v1), none, some (aI x.1), some (aI x.2.1), none] [] x.2.2 := by
  unfold X0_pointsFor_l30 at hh
  refine A_blk hM.1 4 (lv1 := [some (aR 77), some (aI v1), none, some (aI x.1), some (aI x.2.1), none]) (s1 := [aI v1, aR 3, aI x.2.1]) (h1 := x.2.2) rfl ?_
  refine A_callV hM rfl rfl (mem_GW 1454 (by decide +kernel) rfl) mi_X7_bitSize (As := [aI v1]) (rest := [aI x.2.1]) (ct_X7_bitSize v1 x.2.2 (OK_bind hh)) (by decide) ⟨Nat.zero_le _, Nat.zero_le _⟩ rfl rfl (Nat.le_of_ble_eq_true rfl) (by decide) rfl (by decide) rfl (fun r F' h' hq1 => ?_)
  obtain ⟨rfl, r7, rfl, e9, hh⟩ := hq1
  subst h'
  refine A_icmp hM.1 rfl rfl (fun hc => ?_) (fun hc => ?_)
  · replace hh := OK_t hh hc
    refine A_mask [false, false, true, true, false, true] (lv1 := [none, none, none, some (aI x.1), none, none]) rfl ?_
    exact hout0 (x.1, x.2.2) hh
  · replace hh := OK_f hh hc
    refine A_blk hM.1 4 (lv1 := [some (aR 77), some (aI v1), none, some (aI x.1), some (aI x.2.1), none]) (s1 := [aI x.2.1, aI v1, aR 3]) (h1 := x.2.2) rfl ?_
    refine A_callV hM rfl rfl (mem_GW 1455 (by decide +kernel) rfl) mi_X7_bitWord (As := [aI v1, aI x.2.1]) (rest := []) (ct_X7_bitWord v1 x.2.1 x.2.2 (OK_bind hh)) (by decide) ⟨Nat.zero_le _, Nat.zero_le _⟩ rfl rfl (Nat.le_of_ble_eq_true rfl) (by decide) rfl (by decide) rfl (fun r F' h' hq1 => ?_)
    obtain ⟨rfl, r8, rfl, e9, hh⟩ := hq1
    subst h'
    refine A_blk hM.1 5 (lv1 := [some (aR 77), some (aI v1), none, some (aI x.1), some (aI x.2.1), some (aI r8)]) (s1 := [aI r8, aI 119, aR 36]) (h1 := x.2.2) rfl ?_
    refine A_callV hM rfl rfl (mem_GW 1456 (by decide +kernel) rfl) mi_X10_let (As := [aI 119, aI r8]) (rest := []) (ct_X10_let 36 119 r8 x.2.2 (by decide) (OK_bind hh)) (by decide) ⟨Nat.zero_le _, Nat.zero_le _⟩ rfl rfl (Nat.le_of_ble_eq_true rfl) (by decide) rfl (by decide) rfl (fun r F' h' hq1 => ?_)
    obtain ⟨rfl, rfl, hh⟩ := hq1
    obtain ⟨r9, rfl⟩ : ∃ z, z = h' := ⟨_, rfl⟩
    refine A_blk hM.1 6 (lv1 := [some (aR 77), some (aI v1), none, some (aI x.1), some (aI x.2.1), some (aI r8)]) (s1 := [aI r8, aR 78, aI 110, aR 36]) (h1 := r9) rfl ?_
    refine A_callSN (host := "QuotedBooks") hM rfl rfl (mem_NW 1450 (by decide +kernel) rfl) mi_X11_at ms_X11_at (As := [aR 78, aI r8]) (rest := [aI 110, aR 36]) (ct_X11_at 78 64 r8 r9 rfl rfl (OK_bind hh)) (by decide) ⟨Nat.zero_le _, Nat.zero_le _⟩ rfl rfl (Nat.le_of_ble_eq_true rfl) (fun r F' h' hq1 => ?_)
    obtain ⟨rfl, r10, rfl, e9, hh⟩ := hq1
    subst h'
    refine A_callV hM rfl rfl (mem_GW 1456 (by decide +kernel) rfl) mi_X10_let (As := [aI 110, aI r10]) (rest := []) (ct_X10_let 36 110 r10 r9 (by decide) (OK_bind hh)) (by decide) ⟨Nat.zero_le _, Nat.zero_le _⟩ rfl rfl (Nat.le_of_ble_eq_true rfl) (by decide) rfl (by decide) rfl (fun r F' h' hq1 => ?_)
    obtain ⟨rfl, rfl, hh⟩ := hq1
    obtain ⟨r11, rfl⟩ : ∃ z, z = h' := ⟨_, rfl⟩
    refine A_blk hM.1 4 (lv1 := [some (aR 77), some (aI v1), none, some (aI x.1), some (aI x.2.1), some (aI r8)]) (s1 := [aI x.2.1, aI 105, aR 36]) (h1 := r11) rfl ?_
    refine A_callV hM rfl rfl (mem_GW 1456 (by decide +kernel) rfl) mi_X10_let (As := [aI 105, aI x.2.1]) (rest := []) (ct_X10_let 36 105 x.2.1 r11 (by decide) (OK_bind hh)) (by decide) ⟨Nat.zero_le _, Nat.zero_le _⟩ rfl rfl (Nat.le_of_ble_eq_true rfl) (by decide) rfl (by decide) rfl (fun r F' h' hq1 => ?_)
    obtain ⟨rfl, rfl, hh⟩ := hq1
    obtain ⟨r12, rfl⟩ : ∃ z, z = h' := ⟨_, rfl⟩
    refine A_blk hM.1 6 (lv1 := [some (aR 77), some (aI v1), none, some (aI x.1), some (aI x.2.1), some (aI r8)]) (s1 := [aI 1000, aI (-1000), aI 104, aR 36, aI x.1]) (h1 := r12) rfl ?_
    refine A_callV hM rfl rfl (mem_GW 1465 (by decide +kernel) rfl) mi_X10_value (As := [aI 104, aI (-1000), aI 1000]) (rest := [aI x.1]) (ct_X10_value 36 104 (-1000) 1000 r12 (by decide) (OK_bind hh)) (by decide) ⟨Nat.zero_le _, Nat.zero_le _⟩ rfl rfl (Nat.le_of_ble_eq_true rfl) (by decide) rfl (by decide) rfl (fun r F' h' hq1 => ?_)
    obtain ⟨rfl, r13, rfl, e9, hh⟩ := hq1
    subst h'
    refine A_blk hM.1 3 (lv1 := [some (aR 77), some (aI v1), none, some (aI (x.1 + r13.1)), some (aI (x.2.1 + 1)), some (aI r8)]) (s1 := []) (h1 := r13.2) rfl ?_
    refine A_go hM.1 rfl rfl ?_
    refine A_mask [true, true, true, true, true, false] (lv1 := [some (aR 77), some (aI v1), none, some (aI (x.1 + r13.1)), some (aI (x.2.1 + 1)), none]) rfl ?_
    exact hin (x.1 + r13.1, x.2.1 + 1, r13.2) hh

set_option maxRecDepth 20000 in
set_option maxHeartbeats 4000000 in
theorem c_X0_pointsFor {k0 : K0} {G : Gx} {Qp : Option AV → Fx → Hp → Prop} (hM : MB (KM k0 0 0 Qp) G M_X0_pointsFor 5) (v1 : Int) (v2 : Int) (h : Hp)   {P : (Int × Hp) → Prop} (hq : ∀ z : Int × Hp, P z → Qp (some (aI z.1)) FN z.2) (hh : OK (X0_pointsFor v1 v2 h) P) : ATk (KM k0 0 0 Qp) FN 0 0 M_X0_pointsFor 0 [some (aR 77), some (aI v1), some (aI v2), none, none, none] [] h := by
  unfold X0_pointsFor at hh
  refine A_blk hM.1 3 (lv1 := [some (aR 77), some (aI v1), some (aI v2), none, none, none]) (s1 := [aI v1, aI v2, aR 77]) (h1 := h) rfl ?_
  refine A_callV hM rfl rfl (mem_GW 1435 (by decide +kernel) rfl) mi_X0_gatherUses (As := [aI v2, aI v1]) (rest := []) (ct_X0_gatherUses v2 v1 h (OK_bind hh)) (by decide) ⟨Nat.zero_le _, Nat.zero_le _⟩ rfl rfl (Nat.le_of_ble_eq_true rfl) (by decide) rfl (by decide) rfl (fun r F' h' hq1 => ?_)
  obtain ⟨rfl, rfl, hh⟩ := hq1
  obtain ⟨r1, rfl⟩ : ∃ z, z = h' := ⟨_, rfl⟩
  refine A_blk hM.1 5 (lv1 := [some (aR 77), some (aI v1), some (aI v2), none, none, none]) (s1 := [aI (r1 77 3), aI 116, aR 36]) (h1 := r1) rfl ?_
  refine A_callV hM rfl rfl (mem_GW 1456 (by decide +kernel) rfl) mi_X10_let (As := [aI 116, aI (r1 77 3)]) (rest := []) (ct_X10_let 36 116 (r1 77 3) r1 (by decide) (OK_bind hh)) (by decide) ⟨Nat.zero_le _, Nat.zero_le _⟩ rfl rfl (Nat.le_of_ble_eq_true rfl) (by decide) rfl (by decide) rfl (fun r F' h' hq1 => ?_)
  obtain ⟨rfl, rfl, hh⟩ := hq1
  obtain ⟨r2, rfl⟩ : ∃ z, z = h' := ⟨_, rfl⟩
  refine A_blk hM.1 6 (lv1 := [some (aR 77), some (aI v1), some (aI v2), none, none, none]) (s1 := [aI v2, aR 3, aI 112, aR 36]) (h1 := r2) rfl ?_
  refine A_callV hM rfl rfl (mem_GW 1457 (by decide +kernel) rfl) mi_X7_prior (As := [aI v2]) (rest := [aI 112, aR 36]) (ct_X7_prior v2 r2 (OK_bind hh)) (by decide) ⟨Nat.zero_le _, Nat.zero_le _⟩ rfl rfl (Nat.le_of_ble_eq_true rfl) (by decide) rfl (by decide) rfl (fun r F' h' hq1 => ?_)
  obtain ⟨rfl, r3, rfl, e9, hh⟩ := hq1
  subst h'
  refine A_callV hM rfl rfl (mem_GW 1456 (by decide +kernel) rfl) mi_X10_let (As := [aI 112, aI r3]) (rest := []) (ct_X10_let 36 112 r3 r2 (by decide) (OK_bind hh)) (by decide) ⟨Nat.zero_le _, Nat.zero_le _⟩ rfl rfl (Nat.le_of_ble_eq_true rfl) (by decide) rfl (by decide) rfl (fun r F' h' hq1 => ?_)
  obtain ⟨rfl, rfl, hh⟩ := hq1
  obtain ⟨r4, rfl⟩ : ∃ z, z = h' := ⟨_, rfl⟩
  refine A_blk hM.1 6 (lv1 := [some (aR 77), some (aI v1), some (aI v2), none, none, none]) (s1 := [aI v2, aR 3, aI 121, aR 36]) (h1 := r4) rfl ?_
  refine A_callV hM rfl rfl (mem_GW 1461 (by decide +kernel) rfl) mi_X7_authorYear (As := [aI v2]) (rest := [aI 121, aR 36]) (ct_X7_authorYear v2 r4 (OK_bind hh)) (by decide) ⟨Nat.zero_le _, Nat.zero_le _⟩ rfl rfl (Nat.le_of_ble_eq_true rfl) (by decide) rfl (by decide) rfl (fun r F' h' hq1 => ?_)
  obtain ⟨rfl, r5, rfl, e9, hh⟩ := hq1
  subst h'
  refine A_callV hM rfl rfl (mem_GW 1456 (by decide +kernel) rfl) mi_X10_let (As := [aI 121, aI r5]) (rest := []) (ct_X10_let 36 121 r5 r4 (by decide) (OK_bind hh)) (by decide) ⟨Nat.zero_le _, Nat.zero_le _⟩ rfl rfl (Nat.le_of_ble_eq_true rfl) (by decide) rfl (by decide) rfl (fun r F' h' hq1 => ?_)
  obtain ⟨rfl, rfl, hh⟩ := hq1
  obtain ⟨r6, rfl⟩ : ∃ z, z = h' := ⟨_, rfl⟩
  refine A_blk hM.1 4 (lv1 := [some (aR 77), some (aI v1), some (aI v2), some (aI 0), some (aI 0), none]) (s1 := []) (h1 := r6) rfl ?_
  refine A_mask [true, true, false, true, true, true] (lv1 := [some (aR 77), some (aI v1), none, some (aI 0), some (aI 0), none]) rfl ?_
  refine iter_ok (s := (0, 0, r6)) (Gp := fun z => ATk (KM k0 0 0 Qp) FN 0 0 M_X0_pointsFor 30 [some (aR 77), some (aI v1), none, some (aI z.1), some (aI z.2.1), none] [] z.2.2) (E := fun z => ATk (KM k0 0 0 Qp) FN 0 0 M_X0_pointsFor 71 [none, none, none, some (aI z.1), none, none] [] z.2) (fun z P1 g1 g2 g3 => c_X0_pointsFor_l30 hM v1 z g2 g3 g1) (OK_bind hh) (fun x14 hh => ?_)
  refine A_blk hM.1 1 (lv1 := [none, none, none, some (aI x14.1), none, none]) (s1 := [aI x14.1]) (h1 := x14.2) rfl ?_
  exact A_reti hM.1 rfl rfl rfl (hq (x14.1, x14.2) hh)

set_option maxRecDepth 20000 in
set_option maxHeartbeats 4000000 in
theorem ct_X0_pointsFor {G : Gx} (v1 : Int) (v2 : Int) (h : Hp)   {P : (Int × Hp) → Prop} (hh : OK (X0_pointsFor v1 v2 h) P) : CT G yX0_pointsFor M_X0_pointsFor 5 0 0 FN h [aR 77, aI v1, aI v2] (fun r F' h' => F' = FN ∧ ∃ z, r = some (aI z.1) ∧ h' = z.2 ∧ P z) :=
  CT.of (by decide +kernel) rfl (Nat.le_of_ble_eq_true rfl) k_X0_pointsFor fun k0 _ _ hM => c_X0_pointsFor hM v1 v2 h (fun z hz => ⟨rfl, z, rfl, rfl, hz⟩) hh

theorem mi_X0_judge : MIv yX0_judge M_X0_judge 1 := ⟨⟨(mem_GW 1429 (by decide +kernel) rfl), (mem_GW 133 (by decide +kernel) rfl), by decide +kernel, by decide +kernel, by decide +kernel, by decide⟩, (mem_GW 1427 (by decide +kernel) rfl), (mem_GW 1428 (by decide +kernel) rfl)⟩
set_option maxRecDepth 20000 in
set_option maxHeartbeats 4000000 in
theorem c_X0_judge_j64 {k0 : K0} {G : Gx} {Qp : Option AV → Fx → Hp → Prop} (hM : MB (KM k0 0 0 Qp) G M_X0_judge 6) (v1 : Int) (v2 : Int) (h : Hp)   {P : ((Int × Hp) ⊕ (Hp)) → Prop} (hin : ∀ y : Int × Hp, P (.inl y) → ATk (KM k0 0 0 Qp) FN 0 0 M_X0_judge 11 [some (aR 77), some (aI v1), some (aI y.1), none] [] y.2) (hout0 : ∀ y : Hp, P (.inr y) → ATk (KM k0 0 0 Qp) FN 0 0 M_X0_judge 66 [none, none, none, none] [] y) (hh : OK (X0_judge_j64 v1 v2 h) P) : ATk (KM k0 0 0 Qp) FN 0 0 M_X0_judge 64 [some (aR 77), some (aI v1), some (aI v2), none] [] h := by
  unfold X0_judge_j64 at hh
  refine A_blk hM.1 1 (lv1 := [some (aR 77), some (aI v1), some (aI (v2 + 1)), none]) (s1 := []) (h1 := h) rfl ?_
  refine A_go hM.1 rfl rfl ?_
  exact hin (v2 + 1, h) hh

set_option maxRecDepth 20000 in
set_option maxHeartbeats 4000000 in
theorem c_X0_judge_j58 {k0 : K0} {G : Gx} {Qp : Option AV → Fx → Hp → Prop} (hM : MB (KM k0 0 0 Qp) G M_X0_judge 6) (v1 : Int) (v2 : Int) (v3 : Int) (h : Hp)   {P : ((Int × Hp) ⊕ (Hp)) → Prop} (hin : ∀ y : Int × Hp, P (.inl y) → ATk (KM k0 0 0 Qp) FN 0 0 M_X0_judge 11 [some (aR 77), some (aI v1), some (aI y.1), none] [] y.2) (hout0 : ∀ y : Hp, P (.inr y) → ATk (KM k0 0 0 Qp) FN 0 0 M_X0_judge 66 [none, none, none, none] [] y) (hh : OK (X0_judge_j58 v1 v2 v3 h) P) : ATk (KM k0 0 0 Qp) FN 0 0 M_X0_judge 58 [some (aR 77), some (aI v1), some (aI v2), some (aI v3)] [] h := by
  unfold X0_judge_j58 at hh
  refine A_blk hM.1 6 (lv1 := [some (aR 77), some (aI v1), some (aI v2), some (aI v3)]) (s1 := []) (h1 := setH h 77 6 ((h 77 5) - v3)) rfl ?_
  refine A_mask [true, true, true, false] (lv1 := [some (aR 77), some (aI v1), some (aI v2), none]) rfl ?_
  exact c_X0_judge_j64 hM v1 v2 (setH h 77 6 ((h 77 5) - v3)) hin hout0 hh

set_option maxRecDepth 20000 in
set_option maxHeartbeats 4000000 in
theorem c_X0_judge_l11 {k0 : K0} {G : Gx} {Qp : Option AV → Fx → Hp → Prop} (hM : MB (KM k0 0 0 Qp) G M_X0_judge 6) (v1 : Int) (x : Int × Hp)   {P : ((Int × Hp) ⊕ (Hp)) → Prop} (hin : ∀ y : Int × Hp, P (.inl y) → ATk (KM k0 0 0 Qp) FN 0 0 M_X0_judge 11 [some (aR 77), some (aI v1), some (aI y.1), none] [] y.2) (hout0 : ∀ y : Hp, P (.inr y) → ATk (KM k0 0 0 Qp) FN 0 0 M_X0_judge 66 [none, none, none, none] [] y) (hh : OK (X0_judge_l11 v1 x) P) : ATk (KM k0 0 0 Qp) FN 0 0 M_X0_judge 11 [some (aR 77), some (aI v1), some (aI x.1), none] [] x.2 := by
  unfold X0_judge_l11 at hh
  refine A_blk hM.1 3 (lv1 := [some (aR 77), some (aI v1), some (aI x.1), none]) (s1 := [aR 3, aI x.1]) (h1 := x.2) rfl ?_
  refine A_callV hM rfl rfl (mem_GW 1430 (by decide +kernel) rfl) mi_X7_authors (As := []) (rest := [aI x.1]) (ct_X7_authors x.2 (OK_bind hh)) (by decide) ⟨Nat.zero_le _, Nat.zero_le _⟩ rfl rfl (Nat.le_of_ble_eq_true rfl) (by decide) rfl (by decide) rfl (fun r F' h' hq1 => ?_)
  obtain ⟨rfl, r1, rfl, e9, hh⟩ := hq1
  subst h'
  refine A_icmp hM.1 rfl rfl (fun hc => ?_) (fun hc => ?_)
  · replace hh := OK_t hh hc
    refine A_mask [false, false, false, true] (lv1 := [none, none, none, none]) rfl ?_
    exact hout0 x.2 hh
  · replace hh := OK_f hh hc
    refine A_blk hM.1 3 (lv1 := [some (aR 77), some (aI v1), some (aI x.1), none]) (s1 := [aI x.1, aI v1, aR 77]) (h1 := x.2) rfl ?_
    refine A_callV hM rfl rfl (mem_GW 1431 (by decide +kernel) rfl) mi_X0_pointsFor (As := [aI v1, aI x.1]) (rest := []) (ct_X0_pointsFor v1 x.1 x.2 (OK_bind hh)) (by decide) ⟨Nat.zero_le _, Nat.zero_le _⟩ rfl rfl (Nat.le_of_ble_eq_true rfl) (by decide) rfl (by decide) rfl (fun r F' h' hq1 => ?_)
    obtain ⟨rfl, r2, rfl, e9, hh⟩ := hq1
    subst h'
    refine A_blk hM.1 2 (lv1 := [some (aR 77), some (aI v1), some (aI x.1), some (aI r2.1)]) (s1 := [aI x.1]) (h1 := r2.2) rfl ?_
    refine A_ifc hM.1 rfl rfl (fun hc => ?_) (fun hc => ?_)
    · replace hh := OK_t hh hc
      refine A_blk hM.1 3 (lv1 := [some (aR 77), some (aI v1), some (aI x.1), some (aI r2.1)]) (s1 := [aI (r2.2 77 5), aI r2.1]) (h1 := r2.2) rfl ?_
      refine A_icmp hM.1 rfl rfl (fun hc => ?_) (fun hc => ?_)
      · replace hh := OK_t hh hc
        refine A_blk hM.1 3 (lv1 := [some (aR 77), some (aI v1), some (aI x.1), some (aI r2.1)]) (s1 := [aI (-1), aI (r2.2 77 6)]) (h1 := r2.2) rfl ?_
        refine A_icmp hM.1 rfl rfl (fun hc => ?_) (fun hc => ?_)
        · replace hh := OK_t hh hc
          exact c_X0_judge_j58 hM v1 x.1 r2.1 r2.2 hin hout0 hh
        · replace hh := OK_f hh hc
          refine A_blk hM.1 6 (lv1 := [some (aR 77), some (aI v1), some (aI x.1), some (aI r2.1)]) (s1 := [aI (r2.2 77 6), aI ((r2.2 77 5) - r2.1)]) (h1 := r2.2) rfl ?_
          refine A_icmp hM.1 rfl rfl (fun hc => ?_) (fun hc => ?_)
          · replace hh := OK_t hh hc
            refine A_mask [true, true, true, false] (lv1 := [some (aR 77), some (aI v1), some (aI x.1), none]) rfl ?_
            exact c_X0_judge_j64 hM v1 x.1 r2.2 hin hout0 hh
          · replace hh := OK_f hh hc
            exact c_X0_judge_j58 hM v1 x.1 r2.1 r2.2 hin hout0 hh
      · replace hh := OK_f hh hc
        refine A_blk hM.1 12 (lv1 := [some (aR 77), some (aI v1), some (aI x.1), some (aI r2.1)]) (s1 := []) (h1 := setH (setH (setH r2.2 77 6 (r2.1 - (r2.2 77 5))) 77 4 x.1) 77 5 r2.1) rfl ?_
        refine A_go hM.1 rfl rfl ?_
        refine A_mask [true, true, true, false] (lv1 := [some (aR 77), some (aI v1), some (aI x.1), none]) rfl ?_
        exact c_X0_judge_j64 hM v1 x.1 (setH (setH (setH r2.2 77 6 (r2.1 - (r2.2 77 5))) 77 4 x.1) 77 5 r2.1) hin hout0 hh
    · replace hh := OK_f hh hc
      refine A_blk hM.1 6 (lv1 := [some (aR 77), some (aI v1), some (aI x.1), some (aI r2.1)]) (s1 := []) (h1 := setH (setH r2.2 77 4 x.1) 77 5 r2.1) rfl ?_
      refine A_go hM.1 rfl rfl ?_
      refine A_mask [true, true, true, false] (lv1 := [some (aR 77), some (aI v1), some (aI x.1), none]) rfl ?_
      exact c_X0_judge_j64 hM v1 x.1 (setH (setH r2.2 77 4 x.1) 77 5 r2.1) hin hout0 hh

set_option maxRecDepth 20000 in
set_option maxHeartbeats 4000000 in
theorem c_X0_judge {k0 : K0} {G : Gx} {Qp : Option AV → Fx → Hp → Prop} (hM : MB (KM k0 0 0 Qp) G M_X0_judge 6) (v1 : Int) (h : Hp)   {P : Hp → Prop} (hq : ∀ z : Hp, P z → Qp none FN z) (hh : OK (X0_judge v1 h) P) : ATk (KM k0 0 0 Qp) FN 0 0 M_X0_judge 0 [some (aR 77), some (aI v1), none, none] [] h := by
  unfold X0_judge at hh
  refine A_blk hM.1 11 (lv1 := [some (aR 77), some (aI v1), some (aI 0), none]) (s1 := []) (h1 := setH (setH (setH h 77 4 (-1)) 77 5 0) 77 6 (-1)) rfl ?_
  refine iter_ok (s := (0, setH (setH (setH h 77 4 (-1)) 77 5 0) 77 6 (-1))) (Gp := fun z => ATk (KM k0 0 0 Qp) FN 0 0 M_X0_judge 11 [some (aR 77), some (aI v1), some (aI z.1), none] [] z.2) (E := fun z => ATk (KM k0 0 0 Qp) FN 0 0 M_X0_judge 66 [none, none, none, none] [] z) (fun z P1 g1 g2 g3 => c_X0_judge_l11 hM v1 z g2 g3 g1) (OK_bind hh) (fun x3 hh => ?_)
  exact A_retv hM.1 rfl rfl rfl (hq x3 hh)

set_option maxRecDepth 20000 in
set_option maxHeartbeats 4000000 in
theorem ct_X0_judge {G : Gx} (v1 : Int) (h : Hp)   {P : Hp → Prop} (hh : OK (X0_judge v1 h) P) : CT G yX0_judge M_X0_judge 6 0 0 FN h [aR 77, aI v1] (fun r F' h' => F' = FN ∧ r = none ∧ P h') :=
  CT.of (by decide +kernel) rfl (Nat.le_of_ble_eq_true rfl) k_X0_judge fun k0 _ _ hM => c_X0_judge hM v1 h (fun z hz => ⟨rfl, rfl, hz⟩) hh

theorem mi_X0_likeliest : MIv yX0_likeliest M_X0_likeliest 0 := ⟨⟨(mem_GW 1469 (by decide +kernel) rfl), (mem_GW 133 (by decide +kernel) rfl), by decide +kernel, by decide +kernel, by decide +kernel, by decide⟩, (mem_GW 1467 (by decide +kernel) rfl), (mem_GW 1468 (by decide +kernel) rfl)⟩
set_option maxRecDepth 20000 in
set_option maxHeartbeats 4000000 in
theorem c_X0_likeliest {k0 : K0} {G : Gx} {Qp : Option AV → Fx → Hp → Prop} (hM : MB (KM k0 0 0 Qp) G M_X0_likeliest 1) (h : Hp)   {P : Int → Prop} (hq : ∀ z : Int, P z → Qp (some (aI z)) FN h) (hh : OK (X0_likeliest h) P) : ATk (KM k0 0 0 Qp) FN 0 0 M_X0_likeliest 0 [some (aR 77)] [] h := by
  unfold X0_likeliest at hh
  refine A_blk hM.1 2 (lv1 := [some (aR 77)]) (s1 := [aI (h 77 4)]) (h1 := h) rfl ?_
  exact A_reti hM.1 rfl rfl rfl (hq (h 77 4) hh)

set_option maxRecDepth 20000 in
set_option maxHeartbeats 4000000 in
theorem ct_X0_likeliest {G : Gx} (h : Hp)   {P : Int → Prop} (hh : OK (X0_likeliest h) P) : CT G yX0_likeliest M_X0_likeliest 1 0 0 FN h [aR 77] (fun r F' h' => F' = FN ∧ ∃ z, r = some (aI z) ∧ h' = h ∧ P z) :=
  CT.of (by decide +kernel) rfl (Nat.le_of_ble_eq_true rfl) k_X0_likeliest fun k0 _ _ hM => c_X0_likeliest hM h (fun z hz => ⟨rfl, z, rfl, rfl, hz⟩) hh

theorem mi_X0_points : MIv yX0_points M_X0_points 0 := ⟨⟨(mem_GW 1473 (by decide +kernel) rfl), (mem_GW 133 (by decide +kernel) rfl), by decide +kernel, by decide +kernel, by decide +kernel, by decide⟩, (mem_GW 1471 (by decide +kernel) rfl), (mem_GW 1472 (by decide +kernel) rfl)⟩
set_option maxRecDepth 20000 in
set_option maxHeartbeats 4000000 in
theorem c_X0_points {k0 : K0} {G : Gx} {Qp : Option AV → Fx → Hp → Prop} (hM : MB (KM k0 0 0 Qp) G M_X0_points 1) (h : Hp)   {P : Int → Prop} (hq : ∀ z : Int, P z → Qp (some (aI z)) FN h) (hh : OK (X0_points h) P) : ATk (KM k0 0 0 Qp) FN 0 0 M_X0_points 0 [some (aR 77)] [] h := by
  unfold X0_points at hh
  refine A_blk hM.1 2 (lv1 := [some (aR 77)]) (s1 := [aI (h 77 5)]) (h1 := h) rfl ?_
  exact A_reti hM.1 rfl rfl rfl (hq (h 77 5) hh)

set_option maxRecDepth 20000 in
set_option maxHeartbeats 4000000 in
theorem ct_X0_points {G : Gx} (h : Hp)   {P : Int → Prop} (hh : OK (X0_points h) P) : CT G yX0_points M_X0_points 1 0 0 FN h [aR 77] (fun r F' h' => F' = FN ∧ ∃ z, r = some (aI z) ∧ h' = h ∧ P z) :=
  CT.of (by decide +kernel) rfl (Nat.le_of_ble_eq_true rfl) k_X0_points fun k0 _ _ hM => c_X0_points hM h (fun z hz => ⟨rfl, z, rfl, rfl, hz⟩) hh

theorem mi_X0_lead : MIv yX0_lead M_X0_lead 0 := ⟨⟨(mem_GW 1477 (by decide +kernel) rfl), (mem_GW 133 (by decide +kernel) rfl), by decide +kernel, by decide +kernel, by decide +kernel, by decide⟩, (mem_GW 1475 (by decide +kernel) rfl), (mem_GW 1476 (by decide +kernel) rfl)⟩
set_option maxRecDepth 20000 in
set_option maxHeartbeats 4000000 in
theorem c_X0_lead {k0 : K0} {G : Gx} {Qp : Option AV → Fx → Hp → Prop} (hM : MB (KM k0 0 0 Qp) G M_X0_lead 1) (h : Hp)   {P : Int → Prop} (hq : ∀ z : Int, P z → Qp (some (aI z)) FN h) (hh : OK (X0_lead h) P) : ATk (KM k0 0 0 Qp) FN 0 0 M_X0_lead 0 [some (aR 77)] [] h := by
  unfold X0_lead at hh
  refine A_blk hM.1 2 (lv1 := [some (aR 77)]) (s1 := [aI (h 77 6)]) (h1 := h) rfl ?_
  exact A_reti hM.1 rfl rfl rfl (hq (h 77 6) hh)

set_option maxRecDepth 20000 in
set_option maxHeartbeats 4000000 in
theorem ct_X0_lead {G : Gx} (h : Hp)   {P : Int → Prop} (hh : OK (X0_lead h) P) : CT G yX0_lead M_X0_lead 1 0 0 FN h [aR 77] (fun r F' h' => F' = FN ∧ ∃ z, r = some (aI z) ∧ h' = h ∧ P z) :=
  CT.of (by decide +kernel) rfl (Nat.le_of_ble_eq_true rfl) k_X0_lead fun k0 _ _ hM => c_X0_lead hM h (fun z hz => ⟨rfl, z, rfl, rfl, hz⟩) hh

theorem mi_X11_whose : MIv yX11_whose M_X11_whose 2 := ⟨⟨(mem_GW 1421 (by decide +kernel) rfl), (mem_GW 123 (by decide +kernel) rfl), by decide +kernel, by decide +kernel, by decide +kernel, by decide⟩, (mem_GW 1419 (by decide +kernel) rfl), (mem_GW 1420 (by decide +kernel) rfl)⟩
set_option maxRecDepth 20000 in
set_option maxHeartbeats 4000000 in
theorem c_X11_whose {k0 : K0} {G : Gx} {Qp : Option AV → Fx → Hp → Prop} (hM : MB (KM k0 0 0 Qp) G M_X11_whose 7) (v1 : Int) (v2 : Int) (h : Hp)   {P : (Int × Hp) → Prop} (hq : ∀ z : Int × Hp, P z → Qp (some (aI z.1)) FN z.2) (hh : OK (X11_whose v1 v2 h) P) : ATk (KM k0 0 0 Qp) FN 0 0 M_X11_whose 0 [some (aR 0), some (aI v1), some (aI v2)] [] h := by
  unfold X11_whose at hh
  refine A_blk hM.1 3 (lv1 := [some (aR 0), some (aI v1), some (aI v2)]) (s1 := [aI v1, aR 3]) (h1 := h) rfl ?_
  refine A_callV hM rfl rfl (mem_GW 986 (by decide +kernel) rfl) mi_X7_isBit (As := [aI v1]) (rest := []) (ct_X7_isBit v1 h (OK_bind hh)) (by decide) ⟨Nat.zero_le _, Nat.zero_le _⟩ rfl rfl (Nat.le_of_ble_eq_true rfl) (by decide) rfl (by decide) rfl (fun r F' h' hq1 => ?_)
  obtain ⟨rfl, r1, rfl, e9, hh⟩ := hq1
  subst h'
  refine A_ifc hM.1 rfl rfl (fun hc => ?_) (fun hc => ?_)
  · replace hh := OK_t hh hc
    refine A_blk hM.1 1 (lv1 := [some (aR 0), some (aI v1), some (aI v2)]) (s1 := [aI (-1000000)]) (h1 := h) rfl ?_
    exact A_reti hM.1 rfl rfl rfl (hq ((-1000000), h) hh)
  · replace hh := OK_f hh hc
    refine A_blk hM.1 2 (lv1 := [some (aR 0), some (aI v1), some (aI v2)]) (s1 := [aR 3]) (h1 := h) rfl ?_
    refine A_callV hM rfl rfl (mem_GW 1422 (by decide +kernel) rfl) mi_X7_authors (As := []) (rest := []) (ct_X7_authors h (OK_bind hh)) (by decide) ⟨Nat.zero_le _, Nat.zero_le _⟩ rfl rfl (Nat.le_of_ble_eq_true rfl) (by decide) rfl (by decide) rfl (fun r F' h' hq1 => ?_)
    obtain ⟨rfl, r2, rfl, e9, hh⟩ := hq1
    subst h'
    refine A_ifc hM.1 rfl rfl (fun hc => ?_) (fun hc => ?_)
    · replace hh := OK_t hh hc
      refine A_blk hM.1 3 (lv1 := [some (aR 0), some (aI v1), some (aI v2)]) (s1 := [aI v1, aR 77]) (h1 := h) rfl ?_
      refine A_callV hM rfl rfl (mem_GW 1426 (by decide +kernel) rfl) mi_X0_judge (As := [aI v1]) (rest := []) (ct_X0_judge v1 h (OK_bind hh)) (by decide) ⟨Nat.zero_le _, Nat.zero_le _⟩ rfl rfl (Nat.le_of_ble_eq_true rfl) (by decide) rfl (by decide) rfl (fun r F' h' hq1 => ?_)
      obtain ⟨rfl, rfl, hh⟩ := hq1
      obtain ⟨r3, rfl⟩ : ∃ z, z = h' := ⟨_, rfl⟩
      refine A_blk hM.1 1 (lv1 := [some (aR 0), some (aI v1), some (aI v2)]) (s1 := [aI v2]) (h1 := r3) rfl ?_
      refine A_tsw hM.1 rfl [(0, 17), (1, 21), (2, 25)] 29 (by decide +kernel) ?_
      refine ⟨fun hc => ?_, fun hc => ?_⟩
      · replace hh := OK_t hh hc
        refine A_blk hM.1 2 (lv1 := [some (aR 0), some (aI v1), some (aI v2)]) (s1 := [aR 77]) (h1 := r3) rfl ?_
        refine A_callV hM rfl rfl (mem_GW 1466 (by decide +kernel) rfl) mi_X0_likeliest (As := []) (rest := []) (ct_X0_likeliest r3 (OK_bind hh)) (by decide) ⟨Nat.zero_le _, Nat.zero_le _⟩ rfl rfl (Nat.le_of_ble_eq_true rfl) (by decide) rfl (by decide) rfl (fun r F' h' hq1 => ?_)
        obtain ⟨rfl, r4, rfl, e9, hh⟩ := hq1
        subst h'
        exact A_reti hM.1 rfl rfl rfl (hq (r4, r3) hh)
      replace hh := OK_f hh hc
      refine ⟨fun hc => ?_, fun hc => ?_⟩
      · replace hh := OK_t hh hc
        refine A_blk hM.1 2 (lv1 := [some (aR 0), some (aI v1), some (aI v2)]) (s1 := [aR 77]) (h1 := r3) rfl ?_
        refine A_callV hM rfl rfl (mem_GW 1470 (by decide +kernel) rfl) mi_X0_points (As := []) (rest := []) (ct_X0_points r3 (OK_bind hh)) (by decide) ⟨Nat.zero_le _, Nat.zero_le _⟩ rfl rfl (Nat.le_of_ble_eq_true rfl) (by decide) rfl (by decide) rfl (fun r F' h' hq1 => ?_)
        obtain ⟨rfl, r5, rfl, e9, hh⟩ := hq1
        subst h'
        exact A_reti hM.1 rfl rfl rfl (hq (r5, r3) hh)
      replace hh := OK_f hh hc
      refine ⟨fun hc => ?_, fun hc => ?_⟩
      · replace hh := OK_t hh hc
        refine A_blk hM.1 2 (lv1 := [some (aR 0), some (aI v1), some (aI v2)]) (s1 := [aR 77]) (h1 := r3) rfl ?_
        refine A_callV hM rfl rfl (mem_GW 1474 (by decide +kernel) rfl) mi_X0_lead (As := []) (rest := []) (ct_X0_lead r3 (OK_bind hh)) (by decide) ⟨Nat.zero_le _, Nat.zero_le _⟩ rfl rfl (Nat.le_of_ble_eq_true rfl) (by decide) rfl (by decide) rfl (fun r F' h' hq1 => ?_)
        obtain ⟨rfl, r6, rfl, e9, hh⟩ := hq1
        subst h'
        exact A_reti hM.1 rfl rfl rfl (hq (r6, r3) hh)
      replace hh := OK_f hh hc
      refine A_blk hM.1 1 (lv1 := [some (aR 0), some (aI v1), some (aI v2)]) (s1 := [aI (-1000000)]) (h1 := r3) rfl ?_
      exact A_reti hM.1 rfl rfl rfl (hq ((-1000000), r3) hh)
    · replace hh := OK_f hh hc
      refine A_blk hM.1 1 (lv1 := [some (aR 0), some (aI v1), some (aI v2)]) (s1 := [aI (-1000000)]) (h1 := h) rfl ?_
      exact A_reti hM.1 rfl rfl rfl (hq ((-1000000), h) hh)

set_option maxRecDepth 20000 in
set_option maxHeartbeats 4000000 in
theorem ct_X11_whose {G : Gx} (v1 : Int) (v2 : Int) (h : Hp)   {P : (Int × Hp) → Prop} (hh : OK (X11_whose v1 v2 h) P) : CT G yX11_whose M_X11_whose 7 0 0 FN h [aR 0, aI v1, aI v2] (fun r F' h' => F' = FN ∧ ∃ z, r = some (aI z.1) ∧ h' = z.2 ∧ P z) :=
  CT.of (by decide +kernel) rfl (Nat.le_of_ble_eq_true rfl) k_X11_whose fun k0 _ _ hM => c_X11_whose hM v1 v2 h (fun z hz => ⟨rfl, z, rfl, rfl, hz⟩) hh

theorem mi_X0_kindsOf : MIv yX0_kindsOf M_X0_kindsOf 1 := ⟨⟨(mem_GW 1497 (by decide +kernel) rfl), (mem_GW 133 (by decide +kernel) rfl), by decide +kernel, by decide +kernel, by decide +kernel, by decide⟩, (mem_GW 1496 (by decide +kernel) rfl), (mem_GW 51 (by decide +kernel) rfl)⟩
set_option maxRecDepth 20000 in
set_option maxHeartbeats 4000000 in
theorem c_X0_kindsOf_l4 {k0 : K0} {G : Gx} {Qp : Option AV → Fx → Hp → Prop} (hM : MB (KM k0 0 0 Qp) G M_X0_kindsOf 3) (v1 : Int) (h : Hp) (x : Int × Int)   {P : ((Int × Int) ⊕ (Int)) → Prop} (hin : ∀ y : Int × Int, P (.inl y) → ATk (KM k0 0 0 Qp) FN 0 0 M_X0_kindsOf 4 [some (aR 77), some (aI v1), some (aL y.1), none, some (aI y.2)] [] h) (hout0 : ∀ y : Int, P (.inr y) → ATk (KM k0 0 0 Qp) FN 0 0 M_X0_kindsOf 22 [none, none, some (aL y), none, none] [] h) (hh : OK (X0_kindsOf_l4 v1 h x) P) : ATk (KM k0 0 0 Qp) FN 0 0 M_X0_kindsOf 4 [some (aR 77), some (aI v1), some (aL x.1), none, some (aI x.2)] [] h := by
  unfold X0_kindsOf_l4 at hh
  refine A_blk hM.1 4 (lv1 := [some (aR 77), some (aI v1), some (aL x.1), none, some (aI x.2)]) (s1 := [aI v1, aR 3, aI x.2]) (h1 := h) rfl ?_
  refine A_callV hM rfl rfl (mem_GW 1454 (by decide +kernel) rfl) mi_X7_bitSize (As := [aI v1]) (rest := [aI x.2]) (ct_X7_bitSize v1 h (OK_bind hh)) (by decide) ⟨Nat.zero_le _, Nat.zero_le _⟩ rfl rfl (Nat.le_of_ble_eq_true rfl) (by decide) rfl (by decide) rfl (fun r F' h' hq1 => ?_)
  obtain ⟨rfl, r1, rfl, e9, hh⟩ := hq1
  subst h'
  refine A_icmp hM.1 rfl rfl (fun hc => ?_) (fun hc => ?_)
  · replace hh := OK_t hh hc
    refine A_mask [false, false, true, true, false] (lv1 := [none, none, some (aL x.1), none, none]) rfl ?_
    exact hout0 x.1 hh
  · replace hh := OK_f hh hc
    refine A_blk hM.1 6 (lv1 := [some (aR 77), some (aI v1), some (aL x.1), none, some (aI x.2)]) (s1 := [aI x.2, aI v1, aR 3, aL 1, aL x.1]) (h1 := h) rfl ?_
    refine A_callV hM rfl rfl (mem_GW 1455 (by decide +kernel) rfl) mi_X7_bitWord (As := [aI v1, aI x.2]) (rest := [aL 1, aL x.1]) (ct_X7_bitWord v1 x.2 h (OK_bind hh)) (by decide) ⟨Nat.zero_le _, Nat.zero_le _⟩ rfl rfl (Nat.le_of_ble_eq_true rfl) (by decide) rfl (by decide) rfl (fun r F' h' hq1 => ?_)
    obtain ⟨rfl, r2, rfl, e9, hh⟩ := hq1
    subst h'
    refine A_blk hM.1 4 (lv1 := [some (aR 77), some (aI v1), some (aL (or64 x.1 (shl64 1 r2))), none, some (aI (x.2 + 1))]) (s1 := []) (h1 := h) rfl ?_
    refine A_go hM.1 rfl rfl ?_
    exact hin (or64 x.1 (shl64 1 r2), x.2 + 1) hh

set_option maxRecDepth 20000 in
set_option maxHeartbeats 4000000 in
theorem c_X0_kindsOf {k0 : K0} {G : Gx} {Qp : Option AV → Fx → Hp → Prop} (hM : MB (KM k0 0 0 Qp) G M_X0_kindsOf 3) (v1 : Int) (h : Hp)   {P : Int → Prop} (hq : ∀ z : Int, P z → Qp (some (aL z)) FN h) (hh : OK (X0_kindsOf v1 h) P) : ATk (KM k0 0 0 Qp) FN 0 0 M_X0_kindsOf 0 [some (aR 77), some (aI v1), none, none, none] [] h := by
  unfold X0_kindsOf at hh
  refine A_blk hM.1 4 (lv1 := [some (aR 77), some (aI v1), some (aL 0), none, some (aI 0)]) (s1 := []) (h1 := h) rfl ?_
  refine iter_ok (s := (0, 0)) (Gp := fun z => ATk (KM k0 0 0 Qp) FN 0 0 M_X0_kindsOf 4 [some (aR 77), some (aI v1), some (aL z.1), none, some (aI z.2)] [] h) (E := fun z => ATk (KM k0 0 0 Qp) FN 0 0 M_X0_kindsOf 22 [none, none, some (aL z), none, none] [] h) (fun z P1 g1 g2 g3 => c_X0_kindsOf_l4 hM v1 h z g2 g3 g1) (OK_bind hh) (fun x3 hh => ?_)
  refine A_blk hM.1 1 (lv1 := [none, none, some (aL x3), none, none]) (s1 := [aL x3]) (h1 := h) rfl ?_
  exact A_retl hM.1 rfl rfl rfl (hq x3 hh)

set_option maxRecDepth 20000 in
set_option maxHeartbeats 4000000 in
theorem ct_X0_kindsOf {G : Gx} (v1 : Int) (h : Hp)   {P : Int → Prop} (hh : OK (X0_kindsOf v1 h) P) : CT G yX0_kindsOf M_X0_kindsOf 3 0 0 FN h [aR 77, aI v1] (fun r F' h' => F' = FN ∧ ∃ z, r = some (aL z) ∧ h' = h ∧ P z) :=
  CT.of (by decide +kernel) rfl (Nat.le_of_ble_eq_true rfl) k_X0_kindsOf fun k0 _ _ hM => c_X0_kindsOf hM v1 h (fun z hz => ⟨rfl, z, rfl, rfl, hz⟩) hh

