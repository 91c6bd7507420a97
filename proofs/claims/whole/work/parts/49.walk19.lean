set_option linter.all false
theorem mi_X12_length : MIv yX12_length M_X12_length 3 := ⟨⟨(mem_GW 2282 (by decide +kernel) rfl), (mem_GW 135 (by decide +kernel) rfl), by decide +kernel, by decide +kernel, by decide +kernel, by decide⟩, (mem_GW 2280 (by decide +kernel) rfl), (mem_GW 2281 (by decide +kernel) rfl)⟩
set_option maxRecDepth 20000 in
set_option maxHeartbeats 4000000 in
theorem c_X12_length {k0 : K0} {G : Gx} {Qp : Option AV → Fx → Hp → Prop} (hM : MB (KM k0 0 0 Qp) G M_X12_length 3) (v1 : Int) (v2 : Int) (v3 : Int) (h : Hp)   {P : Int → Prop} (hq : ∀ z : Int, P z → Qp (some (aL z)) FN h) (hh : OK (X12_length v1 v2 v3 h) P) : ATk (KM k0 0 0 Qp) FN 0 0 M_X12_length 0 [some (aR 150), some (aI v1), some (aI v2), some (aI v3), none, none, none, none, none, none, none, none, none] [] h := by
  unfold X12_length at hh
  refine A_blk hM.1 2 (lv1 := [some (aR 150), some (aI v1), some (aI v2), some (aI v3), none, none, none, none, none, none, none, none, none]) (s1 := [aI v1, aR 150]) (h1 := h) rfl ?_
  refine A_callV hM rfl rfl (mem_GW 1913 (by decide +kernel) rfl) mi_X12_isWork (As := [aI v1]) (rest := []) (ct_X12_isWork v1 h (OK_bind hh)) (by decide) ⟨Nat.zero_le _, Nat.zero_le _⟩ rfl rfl (Nat.le_of_ble_eq_true rfl) (by decide) rfl (by decide) rfl (fun r F' h' hq1 => ?_)
  obtain ⟨rfl, r1, rfl, e9, hh⟩ := hq1
  subst h'
  refine A_ifc hM.1 rfl rfl (fun hc => ?_) (fun hc => ?_)
  · replace hh := OK_t hh hc
    refine A_blk hM.1 1 (lv1 := [some (aR 150), some (aI v1), some (aI v2), some (aI v3), none, none, none, none, none, none, none, none, none]) (s1 := [aL (-1)]) (h1 := h) rfl ?_
    exact A_retl hM.1 rfl rfl rfl (hq (-1) hh)
  · replace hh := OK_f hh hc
    refine A_blk hM.1 4 (lv1 := [some (aR 150), some (aI v1), some (aI v2), some (aI v3), none, none, none, none, none, none, none, none, none]) (s1 := [aL 40, aL 1, aL (w32 v2)]) (h1 := h) rfl ?_
    refine A_callS hM rfl rfl (mem_GW 1879 (by decide +kernel) rfl) mi_X12_lies ms_X12_lies (As := [aL (w32 v2), aL 1, aL 40]) (rest := []) (ct_X12_lies (w32 v2) 1 40 h (OK_bind hh)) (by decide) ⟨Nat.zero_le _, Nat.zero_le _⟩ rfl rfl (Nat.le_of_ble_eq_true rfl) (fun r F' h' hq1 => ?_)
    obtain ⟨rfl, r2, rfl, e9, hh⟩ := hq1
    subst h'
    refine A_ifc hM.1 rfl rfl (fun hc => ?_) (fun hc => ?_)
    · replace hh := OK_t hh hc
      refine A_blk hM.1 1 (lv1 := [some (aR 150), some (aI v1), some (aI v2), some (aI v3), none, none, none, none, none, none, none, none, none]) (s1 := [aL (-1)]) (h1 := h) rfl ?_
      exact A_retl hM.1 rfl rfl rfl (hq (-1) hh)
    · replace hh := OK_f hh hc
      refine A_blk hM.1 4 (lv1 := [some (aR 150), some (aI v1), some (aI v2), some (aI v3), none, none, none, none, none, none, none, none, none]) (s1 := [aL 1, aL 0, aL (w32 v3)]) (h1 := h) rfl ?_
      refine A_callS hM rfl rfl (mem_GW 1879 (by decide +kernel) rfl) mi_X12_lies ms_X12_lies (As := [aL (w32 v3), aL 0, aL 1]) (rest := []) (ct_X12_lies (w32 v3) 0 1 h (OK_bind hh)) (by decide) ⟨Nat.zero_le _, Nat.zero_le _⟩ rfl rfl (Nat.le_of_ble_eq_true rfl) (fun r F' h' hq1 => ?_)
      obtain ⟨rfl, r3, rfl, e9, hh⟩ := hq1
      subst h'
      refine A_ifc hM.1 rfl rfl (fun hc => ?_) (fun hc => ?_)
      · replace hh := OK_t hh hc
        refine A_blk hM.1 2 (lv1 := [some (aR 150), some (aI v1), some (aI v2), some (aI v3), none, none, none, none, none, none, none, none, none]) (s1 := [aI v1, aR 150]) (h1 := h) rfl ?_
        refine A_callV hM rfl rfl (mem_GW 2283 (by decide +kernel) rfl) mi_X12_booksTold (As := [aI v1]) (rest := []) (ct_X12_booksTold v1 h (OK_bind hh)) (by decide) ⟨Nat.zero_le _, Nat.zero_le _⟩ rfl rfl (Nat.le_of_ble_eq_true rfl) (by decide) rfl (by decide) rfl (fun r F' h' hq1 => ?_)
        obtain ⟨rfl, r4, rfl, e9, hh⟩ := hq1
        subst h'
        refine A_blk hM.1 4 (lv1 := [some (aR 150), some (aI v1), some (aI v2), some (aI v3), some (aL r4), none, none, none, none, none, none, none, none]) (s1 := [aI (cmp64 r4 0)]) (h1 := h) rfl ?_
        refine A_ifc hM.1 rfl rfl (fun hc => ?_) (fun hc => ?_)
        · replace hh := OK_t hh hc
          refine A_blk hM.1 1 (lv1 := [some (aR 150), some (aI v1), some (aI v2), some (aI v3), some (aL r4), none, none, none, none, none, none, none, none]) (s1 := [aL r4]) (h1 := h) rfl ?_
          refine A_callS hM rfl rfl (mem_GW 2288 (by decide +kernel) rfl) mi_X12_greatestOf ms_X12_greatestOf (As := [aL r4]) (rest := []) (ct_X12_greatestOf r4 h (OK_bind hh)) (by decide) ⟨Nat.zero_le _, Nat.zero_le _⟩ rfl rfl (Nat.le_of_ble_eq_true rfl) (fun r F' h' hq1 => ?_)
          obtain ⟨rfl, r5, rfl, e9, hh⟩ := hq1
          subst h'
          refine A_blk hM.1 3 (lv1 := [some (aR 150), some (aI v1), some (aI v2), some (aI v3), some (aL r4), none, some (aI r5), none, none, none, none, none, none]) (s1 := [aI r5, aI v2]) (h1 := h) rfl ?_
          refine A_icmp hM.1 rfl rfl (fun hc => ?_) (fun hc => ?_)
          · replace hh := OK_t hh hc
            refine A_blk hM.1 4 (lv1 := [some (aR 150), some (aI v1), some (aI v2), some (aI v3), some (aL r4), none, some (aI r5), none, none, none, none, none, none]) (s1 := [aL r4, aI (r5 - 1)]) (h1 := h) rfl ?_
            refine A_callS hM rfl rfl (mem_GW 2164 (by decide +kernel) rfl) mi_X12_sizeOf ms_X12_sizeOf (As := [aL r4]) (rest := [aI (r5 - 1)]) (ct_X12_sizeOf r4 h (OK_bind hh)) (by decide) ⟨Nat.zero_le _, Nat.zero_le _⟩ rfl rfl (Nat.le_of_ble_eq_true rfl) (fun r F' h' hq1 => ?_)
            obtain ⟨rfl, r6, rfl, e9, hh⟩ := hq1
            subst h'
            refine A_blk hM.1 2 (lv1 := [some (aR 150), some (aI v1), some (aI v2), some (aI v3), some (aL r4), none, some (aI r5), none, none, none, none, none, none]) (s1 := [aI (r6 - 1), aI (r5 - 1)]) (h1 := h) rfl ?_
            refine A_callS hM rfl rfl (mem_GW 2184 (by decide +kernel) rfl) mi_X12_choices ms_X12_choices (As := [aI (r5 - 1), aI (r6 - 1)]) (rest := []) (ct_X12_choices (r5 - 1) (r6 - 1) h (OK_bind hh)) (by decide) ⟨Nat.zero_le _, Nat.zero_le _⟩ rfl rfl (Nat.le_of_ble_eq_true rfl) (fun r F' h' hq1 => ?_)
            obtain ⟨rfl, r7, rfl, e9, hh⟩ := hq1
            subst h'
            refine A_blk hM.1 3 (lv1 := [some (aR 150), some (aI v1), some (aI v2), some (aI v3), some (aL r4), none, some (aI r5), some (aL r7), none, none, none, none, none]) (s1 := [aL r4, aI v2]) (h1 := h) rfl ?_
            refine A_callS hM rfl rfl (mem_GW 2164 (by decide +kernel) rfl) mi_X12_sizeOf ms_X12_sizeOf (As := [aL r4]) (rest := [aI v2]) (ct_X12_sizeOf r4 h (OK_bind hh)) (by decide) ⟨Nat.zero_le _, Nat.zero_le _⟩ rfl rfl (Nat.le_of_ble_eq_true rfl) (fun r F' h' hq1 => ?_)
            obtain ⟨rfl, r8, rfl, e9, hh⟩ := hq1
            subst h'
            refine A_callS hM rfl rfl (mem_GW 2184 (by decide +kernel) rfl) mi_X12_choices ms_X12_choices (As := [aI v2, aI r8]) (rest := []) (ct_X12_choices v2 r8 h (OK_bind hh)) (by decide) ⟨Nat.zero_le _, Nat.zero_le _⟩ rfl rfl (Nat.le_of_ble_eq_true rfl) (fun r F' h' hq1 => ?_)
            obtain ⟨rfl, r9, rfl, e9, hh⟩ := hq1
            subst h'
            refine A_blk hM.1 3 (lv1 := [some (aR 150), some (aI v1), some (aI v2), some (aI v3), some (aL r4), none, some (aI r5), some (aL r7), none, some (aL r9), none, none, none]) (s1 := [aL r9, aL r7]) (h1 := h) rfl ?_
            refine A_callS hM rfl rfl (mem_GW 2187 (by decide +kernel) rfl) mi_X12_divisor ms_X12_divisor (As := [aL r7, aL r9]) (rest := []) (ct_X12_divisor r7 r9 h (OK_bind hh)) (by decide) ⟨Nat.zero_le _, Nat.zero_le _⟩ rfl rfl (Nat.le_of_ble_eq_true rfl) (fun r F' h' hq1 => ?_)
            obtain ⟨rfl, r10, rfl, e9, hh⟩ := hq1
            subst h'
            refine A_blk hM.1 2 (lv1 := [some (aR 150), some (aI v1), some (aI v2), some (aI v3), some (aL r4), none, some (aI r5), some (aL r7), none, some (aL r9), none, some (aL r10), none]) (s1 := [aI v3]) (h1 := h) rfl ?_
            refine A_ifc hM.1 rfl rfl (fun hc => ?_) (fun hc => ?_)
            · replace hh := OK_t hh hc
              refine A_blk hM.1 2 (lv1 := [some (aR 150), some (aI v1), some (aI v2), some (aI v3), some (aL r4), none, some (aI r5), some (aL r7), none, some (aL r9), none, some (aL r10), none]) (s1 := [aL r10, aL r9]) (h1 := h) rfl ?_
              obtain ⟨g11, hh⟩ := OK_g hh
              refine A_ldiv hM.1 rfl rfl g11 ?_
              exact A_retl hM.1 rfl rfl rfl (hq (div64 r9 r10) hh)
            · replace hh := OK_f hh hc
              refine A_blk hM.1 2 (lv1 := [some (aR 150), some (aI v1), some (aI v2), some (aI v3), some (aL r4), none, some (aI r5), some (aL r7), none, some (aL r9), none, some (aL r10), none]) (s1 := [aL r10, aL r7]) (h1 := h) rfl ?_
              obtain ⟨g12, hh⟩ := OK_g hh
              refine A_ldiv hM.1 rfl rfl g12 ?_
              refine A_go hM.1 rfl rfl ?_
              exact A_retl hM.1 rfl rfl rfl (hq (div64 r7 r10) hh)
          · replace hh := OK_f hh hc
            refine A_blk hM.1 2 (lv1 := [some (aR 150), some (aI v1), some (aI v2), some (aI v3), some (aL r4), none, some (aI r5), none, none, none, none, none, none]) (s1 := [aL (w32 v3)]) (h1 := h) rfl ?_
            exact A_retl hM.1 rfl rfl rfl (hq (w32 v3) hh)
        · replace hh := OK_f hh hc
          refine A_blk hM.1 1 (lv1 := [some (aR 150), some (aI v1), some (aI v2), some (aI v3), some (aL r4), none, none, none, none, none, none, none, none]) (s1 := [aL (-2)]) (h1 := h) rfl ?_
          exact A_retl hM.1 rfl rfl rfl (hq (-2) hh)
      · replace hh := OK_f hh hc
        refine A_blk hM.1 1 (lv1 := [some (aR 150), some (aI v1), some (aI v2), some (aI v3), none, none, none, none, none, none, none, none, none]) (s1 := [aL (-1)]) (h1 := h) rfl ?_
        exact A_retl hM.1 rfl rfl rfl (hq (-1) hh)

set_option maxRecDepth 20000 in
set_option maxHeartbeats 4000000 in
theorem ct_X12_length {G : Gx} (v1 : Int) (v2 : Int) (v3 : Int) (h : Hp)   {P : Int → Prop} (hh : OK (X12_length v1 v2 v3 h) P) : CT G yX12_length M_X12_length 3 0 0 FN h [aR 150, aI v1, aI v2, aI v3] (fun r F' h' => F' = FN ∧ ∃ z, r = some (aL z) ∧ h' = h ∧ P z) :=
  CT.of (by decide +kernel) rfl (Nat.le_of_ble_eq_true rfl) k_X12_length fun k0 _ _ hM => c_X12_length hM v1 v2 v3 h (fun z hz => ⟨rfl, z, rfl, rfl, hz⟩) hh

theorem mi_X12_span : MIv yX12_span M_X12_span 3 := ⟨⟨(mem_GW 2294 (by decide +kernel) rfl), (mem_GW 135 (by decide +kernel) rfl), by decide +kernel, by decide +kernel, by decide +kernel, by decide⟩, (mem_GW 2292 (by decide +kernel) rfl), (mem_GW 2293 (by decide +kernel) rfl)⟩
set_option maxRecDepth 20000 in
set_option maxHeartbeats 4000000 in
theorem c_X12_span_j64 {k0 : K0} {G : Gx} {Qp : Option AV → Fx → Hp → Prop} (hM : MB (KM k0 0 0 Qp) G M_X12_span 3) (v2 : Int) (v3 : Int) (v4 : Int) (v6 : Int) (v7 : Int) (v8 : Int) (h : Hp)   {P : ((Int × Int) ⊕ (Int)) → Prop} (hin : ∀ y : Int × Int, P (.inl y) → ATk (KM k0 0 0 Qp) FN 0 0 M_X12_span 35 [none, none, some (aI v2), some (aI v3), some (aL v4), none, some (aI y.1), some (aI v7), some (aI y.2)] [] h) (hout0 : ∀ y : Int, P (.inr y) → ATk (KM k0 0 0 Qp) FN 0 0 M_X12_span 66 [none, none, none, none, none, none, some (aI y), none, none] [] h) (hh : OK (X12_span_j64 v2 v3 v4 v6 v7 v8 h) P) : ATk (KM k0 0 0 Qp) FN 0 0 M_X12_span 64 [none, none, some (aI v2), some (aI v3), some (aL v4), none, some (aI v6), some (aI v7), some (aI v8)] [] h := by
  unfold X12_span_j64 at hh
  refine A_blk hM.1 1 (lv1 := [none, none, some (aI v2), some (aI v3), some (aL v4), none, some (aI v6), some (aI v7), some (aI (v8 + 1))]) (s1 := []) (h1 := h) rfl ?_
  refine A_go hM.1 rfl rfl ?_
  exact hin (v6, v8 + 1) hh

set_option maxRecDepth 20000 in
set_option maxHeartbeats 4000000 in
theorem c_X12_span_j62 {k0 : K0} {G : Gx} {Qp : Option AV → Fx → Hp → Prop} (hM : MB (KM k0 0 0 Qp) G M_X12_span 3) (v2 : Int) (v3 : Int) (v4 : Int) (v7 : Int) (v8 : Int) (h : Hp)   {P : ((Int × Int) ⊕ (Int)) → Prop} (hin : ∀ y : Int × Int, P (.inl y) → ATk (KM k0 0 0 Qp) FN 0 0 M_X12_span 35 [none, none, some (aI v2), some (aI v3), some (aL v4), none, some (aI y.1), some (aI v7), some (aI y.2)] [] h) (hout0 : ∀ y : Int, P (.inr y) → ATk (KM k0 0 0 Qp) FN 0 0 M_X12_span 66 [none, none, none, none, none, none, some (aI y), none, none] [] h) (hh : OK (X12_span_j62 v2 v3 v4 v7 v8 h) P) : ATk (KM k0 0 0 Qp) FN 0 0 M_X12_span 62 [none, none, some (aI v2), some (aI v3), some (aL v4), none, none, some (aI v7), some (aI v8)] [] h := by
  unfold X12_span_j62 at hh
  refine A_blk hM.1 2 (lv1 := [none, none, some (aI v2), some (aI v3), some (aL v4), none, some (aI v8), some (aI v7), some (aI v8)]) (s1 := []) (h1 := h) rfl ?_
  exact c_X12_span_j64 hM v2 v3 v4 v8 v7 v8 h hin hout0 hh

set_option maxRecDepth 20000 in
set_option maxHeartbeats 4000000 in
theorem c_X12_span_l35 {k0 : K0} {G : Gx} {Qp : Option AV → Fx → Hp → Prop} (hM : MB (KM k0 0 0 Qp) G M_X12_span 3) (v2 : Int) (v3 : Int) (v4 : Int) (v7 : Int) (h : Hp) (x : Int × Int)   {P : ((Int × Int) ⊕ (Int)) → Prop} (hin : ∀ y : Int × Int, P (.inl y) → ATk (KM k0 0 0 Qp) FN 0 0 M_X12_span 35 [none, none, some (aI v2), some (aI v3), some (aL v4), none, some (aI y.1), some (aI v7), some (aI y.2)] [] h) (hout0 : ∀ y : Int, P (.inr y) → ATk (KM k0 0 0 Qp) FN 0 0 M_X12_span 66 [none, none, none, none, none, none, some (aI y), none, none] [] h) (hh : OK (X12_span_l35 v2 v3 v4 v7 h x) P) : ATk (KM k0 0 0 Qp) FN 0 0 M_X12_span 35 [none, none, some (aI v2), some (aI v3), some (aL v4), none, some (aI x.1), some (aI v7), some (aI x.2)] [] h := by
  unfold X12_span_l35 at hh
  refine A_blk hM.1 2 (lv1 := [none, none, some (aI v2), some (aI v3), some (aL v4), none, some (aI x.1), some (aI v7), some (aI x.2)]) (s1 := [aI 40, aI x.2]) (h1 := h) rfl ?_
  refine A_icmp hM.1 rfl rfl (fun hc => ?_) (fun hc => ?_)
  · replace hh := OK_t hh hc
    refine A_mask [true, true, false, false, false, true, true, false, false] (lv1 := [none, none, none, none, none, none, some (aI x.1), none, none]) rfl ?_
    exact hout0 x.1 hh
  · replace hh := OK_f hh hc
    refine A_blk hM.1 4 (lv1 := [none, none, some (aI v2), some (aI v3), some (aL v4), none, some (aI x.1), some (aI v7), some (aI x.2)]) (s1 := [aL v4, aI (v7 - 1)]) (h1 := h) rfl ?_
    refine A_callS hM rfl rfl (mem_GW 2164 (by decide +kernel) rfl) mi_X12_sizeOf ms_X12_sizeOf (As := [aL v4]) (rest := [aI (v7 - 1)]) (ct_X12_sizeOf v4 h (OK_bind hh)) (by decide) ⟨Nat.zero_le _, Nat.zero_le _⟩ rfl rfl (Nat.le_of_ble_eq_true rfl) (fun r F' h' hq1 => ?_)
    obtain ⟨rfl, r6, rfl, e9, hh⟩ := hq1
    subst h'
    refine A_blk hM.1 2 (lv1 := [none, none, some (aI v2), some (aI v3), some (aL v4), none, some (aI x.1), some (aI v7), some (aI x.2)]) (s1 := [aI (r6 - 1), aI (v7 - 1)]) (h1 := h) rfl ?_
    refine A_callS hM rfl rfl (mem_GW 2184 (by decide +kernel) rfl) mi_X12_choices ms_X12_choices (As := [aI (v7 - 1), aI (r6 - 1)]) (rest := []) (ct_X12_choices (v7 - 1) (r6 - 1) h (OK_bind hh)) (by decide) ⟨Nat.zero_le _, Nat.zero_le _⟩ rfl rfl (Nat.le_of_ble_eq_true rfl) (fun r F' h' hq1 => ?_)
    obtain ⟨rfl, r7, rfl, e9, hh⟩ := hq1
    subst h'
    refine A_blk hM.1 6 (lv1 := [none, none, some (aI v2), some (aI v3), some (aL v4), none, some (aI x.1), some (aI v7), some (aI x.2)]) (s1 := [aL v4, aI x.2, aL (w32 v2), aL (r7 * 1000)]) (h1 := h) rfl ?_
    refine A_callS hM rfl rfl (mem_GW 2164 (by decide +kernel) rfl) mi_X12_sizeOf ms_X12_sizeOf (As := [aL v4]) (rest := [aI x.2, aL (w32 v2), aL (r7 * 1000)]) (ct_X12_sizeOf v4 h (OK_bind hh)) (by decide) ⟨Nat.zero_le _, Nat.zero_le _⟩ rfl rfl (Nat.le_of_ble_eq_true rfl) (fun r F' h' hq1 => ?_)
    obtain ⟨rfl, r8, rfl, e9, hh⟩ := hq1
    subst h'
    refine A_callS hM rfl rfl (mem_GW 2184 (by decide +kernel) rfl) mi_X12_choices ms_X12_choices (As := [aI x.2, aI r8]) (rest := [aL (w32 v2), aL (r7 * 1000)]) (ct_X12_choices x.2 r8 h (OK_bind hh)) (by decide) ⟨Nat.zero_le _, Nat.zero_le _⟩ rfl rfl (Nat.le_of_ble_eq_true rfl) (fun r F' h' hq1 => ?_)
    obtain ⟨rfl, r9, rfl, e9, hh⟩ := hq1
    subst h'
    refine A_blk hM.1 2 (lv1 := [none, none, some (aI v2), some (aI v3), some (aL v4), none, some (aI x.1), some (aI v7), some (aI x.2)]) (s1 := [aI (cmp64 (r7 * 1000) ((w32 v2) * r9))]) (h1 := h) rfl ?_
    refine A_ifc hM.1 rfl rfl (fun hc => ?_) (fun hc => ?_)
    · replace hh := OK_t hh hc
      exact c_X12_span_j64 hM v2 v3 v4 x.1 v7 x.2 h hin hout0 hh
    · replace hh := OK_f hh hc
      refine A_blk hM.1 2 (lv1 := [none, none, some (aI v2), some (aI v3), some (aL v4), none, some (aI x.1), some (aI v7), some (aI x.2)]) (s1 := [aI 1, aI v3]) (h1 := h) rfl ?_
      refine A_icmp hM.1 rfl rfl (fun hc => ?_) (fun hc => ?_)
      · replace hh := OK_t hh hc
        refine A_mask [true, true, true, true, true, true, false, true, true] (lv1 := [none, none, some (aI v2), some (aI v3), some (aL v4), none, none, some (aI v7), some (aI x.2)]) rfl ?_
        exact c_X12_span_j62 hM v2 v3 v4 v7 x.2 h hin hout0 hh
      · replace hh := OK_f hh hc
        refine A_blk hM.1 1 (lv1 := [none, none, some (aI v2), some (aI v3), some (aL v4), none, some (aI x.1), some (aI v7), some (aI x.2)]) (s1 := [aI x.1]) (h1 := h) rfl ?_
        refine A_ifc hM.1 rfl rfl (fun hc => ?_) (fun hc => ?_)
        · replace hh := OK_t hh hc
          exact c_X12_span_j64 hM v2 v3 v4 x.1 v7 x.2 h hin hout0 hh
        · replace hh := OK_f hh hc
          refine A_mask [true, true, true, true, true, true, false, true, true] (lv1 := [none, none, some (aI v2), some (aI v3), some (aL v4), none, none, some (aI v7), some (aI x.2)]) rfl ?_
          exact c_X12_span_j62 hM v2 v3 v4 v7 x.2 h hin hout0 hh

set_option maxRecDepth 20000 in
set_option maxHeartbeats 4000000 in
theorem c_X12_span {k0 : K0} {G : Gx} {Qp : Option AV → Fx → Hp → Prop} (hM : MB (KM k0 0 0 Qp) G M_X12_span 3) (v1 : Int) (v2 : Int) (v3 : Int) (h : Hp)   {P : Int → Prop} (hq : ∀ z : Int, P z → Qp (some (aI z)) FN h) (hh : OK (X12_span v1 v2 v3 h) P) : ATk (KM k0 0 0 Qp) FN 0 0 M_X12_span 0 [some (aR 150), some (aI v1), some (aI v2), some (aI v3), none, none, none, none, none] [] h := by
  unfold X12_span at hh
  refine A_blk hM.1 2 (lv1 := [some (aR 150), some (aI v1), some (aI v2), some (aI v3), none, none, none, none, none]) (s1 := [aI v1, aR 150]) (h1 := h) rfl ?_
  refine A_callV hM rfl rfl (mem_GW 1913 (by decide +kernel) rfl) mi_X12_isWork (As := [aI v1]) (rest := []) (ct_X12_isWork v1 h (OK_bind hh)) (by decide) ⟨Nat.zero_le _, Nat.zero_le _⟩ rfl rfl (Nat.le_of_ble_eq_true rfl) (by decide) rfl (by decide) rfl (fun r F' h' hq1 => ?_)
  obtain ⟨rfl, r1, rfl, e9, hh⟩ := hq1
  subst h'
  refine A_ifc hM.1 rfl rfl (fun hc => ?_) (fun hc => ?_)
  · replace hh := OK_t hh hc
    refine A_blk hM.1 1 (lv1 := [some (aR 150), some (aI v1), some (aI v2), some (aI v3), none, none, none, none, none]) (s1 := [aI (-1)]) (h1 := h) rfl ?_
    exact A_reti hM.1 rfl rfl rfl (hq (-1) hh)
  · replace hh := OK_f hh hc
    refine A_blk hM.1 4 (lv1 := [some (aR 150), some (aI v1), some (aI v2), some (aI v3), none, none, none, none, none]) (s1 := [aL 1000, aL 1, aL (w32 v2)]) (h1 := h) rfl ?_
    refine A_callS hM rfl rfl (mem_GW 1879 (by decide +kernel) rfl) mi_X12_lies ms_X12_lies (As := [aL (w32 v2), aL 1, aL 1000]) (rest := []) (ct_X12_lies (w32 v2) 1 1000 h (OK_bind hh)) (by decide) ⟨Nat.zero_le _, Nat.zero_le _⟩ rfl rfl (Nat.le_of_ble_eq_true rfl) (fun r F' h' hq1 => ?_)
    obtain ⟨rfl, r2, rfl, e9, hh⟩ := hq1
    subst h'
    refine A_ifc hM.1 rfl rfl (fun hc => ?_) (fun hc => ?_)
    · replace hh := OK_t hh hc
      refine A_blk hM.1 1 (lv1 := [some (aR 150), some (aI v1), some (aI v2), some (aI v3), none, none, none, none, none]) (s1 := [aI (-1)]) (h1 := h) rfl ?_
      exact A_reti hM.1 rfl rfl rfl (hq (-1) hh)
    · replace hh := OK_f hh hc
      refine A_blk hM.1 4 (lv1 := [some (aR 150), some (aI v1), some (aI v2), some (aI v3), none, none, none, none, none]) (s1 := [aL 1, aL 0, aL (w32 v3)]) (h1 := h) rfl ?_
      refine A_callS hM rfl rfl (mem_GW 1879 (by decide +kernel) rfl) mi_X12_lies ms_X12_lies (As := [aL (w32 v3), aL 0, aL 1]) (rest := []) (ct_X12_lies (w32 v3) 0 1 h (OK_bind hh)) (by decide) ⟨Nat.zero_le _, Nat.zero_le _⟩ rfl rfl (Nat.le_of_ble_eq_true rfl) (fun r F' h' hq1 => ?_)
      obtain ⟨rfl, r3, rfl, e9, hh⟩ := hq1
      subst h'
      refine A_ifc hM.1 rfl rfl (fun hc => ?_) (fun hc => ?_)
      · replace hh := OK_t hh hc
        refine A_blk hM.1 2 (lv1 := [some (aR 150), some (aI v1), some (aI v2), some (aI v3), none, none, none, none, none]) (s1 := [aI v1, aR 150]) (h1 := h) rfl ?_
        refine A_callV hM rfl rfl (mem_GW 2283 (by decide +kernel) rfl) mi_X12_booksTold (As := [aI v1]) (rest := []) (ct_X12_booksTold v1 h (OK_bind hh)) (by decide) ⟨Nat.zero_le _, Nat.zero_le _⟩ rfl rfl (Nat.le_of_ble_eq_true rfl) (by decide) rfl (by decide) rfl (fun r F' h' hq1 => ?_)
        obtain ⟨rfl, r4, rfl, e9, hh⟩ := hq1
        subst h'
        refine A_blk hM.1 6 (lv1 := [some (aR 150), some (aI v1), some (aI v2), some (aI v3), some (aL r4), none, some (aI (-2)), none, none]) (s1 := [aI (cmp64 r4 0)]) (h1 := h) rfl ?_
        refine A_ifc hM.1 rfl rfl (fun hc => ?_) (fun hc => ?_)
        · replace hh := OK_t hh hc
          refine A_blk hM.1 1 (lv1 := [some (aR 150), some (aI v1), some (aI v2), some (aI v3), some (aL r4), none, some (aI (-2)), none, none]) (s1 := [aL r4]) (h1 := h) rfl ?_
          refine A_callS hM rfl rfl (mem_GW 2288 (by decide +kernel) rfl) mi_X12_greatestOf ms_X12_greatestOf (As := [aL r4]) (rest := []) (ct_X12_greatestOf r4 h (OK_bind hh)) (by decide) ⟨Nat.zero_le _, Nat.zero_le _⟩ rfl rfl (Nat.le_of_ble_eq_true rfl) (fun r F' h' hq1 => ?_)
          obtain ⟨rfl, r5, rfl, e9, hh⟩ := hq1
          subst h'
          refine A_blk hM.1 3 (lv1 := [some (aR 150), some (aI v1), some (aI v2), some (aI v3), some (aL r4), none, some (aI (-2)), some (aI r5), some (aI r5)]) (s1 := []) (h1 := h) rfl ?_
          refine A_mask [false, false, true, true, true, true, true, true, true] (lv1 := [none, none, some (aI v2), some (aI v3), some (aL r4), none, some (aI (-2)), some (aI r5), some (aI r5)]) rfl ?_
          refine iter_ok (s := ((-2), r5)) (Gp := fun z => ATk (KM k0 0 0 Qp) FN 0 0 M_X12_span 35 [none, none, some (aI v2), some (aI v3), some (aL r4), none, some (aI z.1), some (aI r5), some (aI z.2)] [] h) (E := fun z => ATk (KM k0 0 0 Qp) FN 0 0 M_X12_span 66 [none, none, none, none, none, none, some (aI z), none, none] [] h) (fun z P1 g1 g2 g3 => c_X12_span_l35 hM v2 v3 r4 r5 h z g2 g3 g1) (OK_bind hh) (fun x10 hh => ?_)
          refine A_blk hM.1 1 (lv1 := [none, none, none, none, none, none, some (aI x10), none, none]) (s1 := [aI x10]) (h1 := h) rfl ?_
          exact A_reti hM.1 rfl rfl rfl (hq x10 hh)
        · replace hh := OK_f hh hc
          refine A_blk hM.1 1 (lv1 := [some (aR 150), some (aI v1), some (aI v2), some (aI v3), some (aL r4), none, some (aI (-2)), none, none]) (s1 := [aI (-2)]) (h1 := h) rfl ?_
          exact A_reti hM.1 rfl rfl rfl (hq (-2) hh)
      · replace hh := OK_f hh hc
        refine A_blk hM.1 1 (lv1 := [some (aR 150), some (aI v1), some (aI v2), some (aI v3), none, none, none, none, none]) (s1 := [aI (-1)]) (h1 := h) rfl ?_
        exact A_reti hM.1 rfl rfl rfl (hq (-1) hh)

set_option maxRecDepth 20000 in
set_option maxHeartbeats 4000000 in
theorem ct_X12_span {G : Gx} (v1 : Int) (v2 : Int) (v3 : Int) (h : Hp)   {P : Int → Prop} (hh : OK (X12_span v1 v2 v3 h) P) : CT G yX12_span M_X12_span 3 0 0 FN h [aR 150, aI v1, aI v2, aI v3] (fun r F' h' => F' = FN ∧ ∃ z, r = some (aI z) ∧ h' = h ∧ P z) :=
  CT.of (by decide +kernel) rfl (Nat.le_of_ble_eq_true rfl) k_X12_span fun k0 _ _ hM => c_X12_span hM v1 v2 v3 h (fun z hz => ⟨rfl, z, rfl, rfl, hz⟩) hh

theorem mi_X12_nobody : MIv yX12_nobody M_X12_nobody 2 := ⟨⟨(mem_GW 2298 (by decide +kernel) rfl), (mem_GW 135 (by decide +kernel) rfl), by decide +kernel, by decide +kernel, by decide +kernel, by decide⟩, (mem_GW 2296 (by decide +kernel) rfl), (mem_GW 2297 (by decide +kernel) rfl)⟩
set_option maxRecDepth 20000 in
set_option maxHeartbeats 4000000 in
theorem c_X12_nobody {k0 : K0} {G : Gx} {Qp : Option AV → Fx → Hp → Prop} (hM : MB (KM k0 0 0 Qp) G M_X12_nobody 3) (v1 : Int) (v2 : Int) (h : Hp)   {P : Int → Prop} (hq : ∀ z : Int, P z → Qp (some (aL z)) FN h) (hh : OK (X12_nobody v1 v2 h) P) : ATk (KM k0 0 0 Qp) FN 0 0 M_X12_nobody 0 [some (aR 150), some (aI v1), some (aI v2)] [] h := by
  unfold X12_nobody at hh
  refine A_blk hM.1 2 (lv1 := [some (aR 150), some (aI v1), some (aI v2)]) (s1 := [aI v1, aR 150]) (h1 := h) rfl ?_
  refine A_callV hM rfl rfl (mem_GW 1913 (by decide +kernel) rfl) mi_X12_isWork (As := [aI v1]) (rest := []) (ct_X12_isWork v1 h (OK_bind hh)) (by decide) ⟨Nat.zero_le _, Nat.zero_le _⟩ rfl rfl (Nat.le_of_ble_eq_true rfl) (by decide) rfl (by decide) rfl (fun r F' h' hq1 => ?_)
  obtain ⟨rfl, r1, rfl, e9, hh⟩ := hq1
  subst h'
  refine A_ifc hM.1 rfl rfl (fun hc => ?_) (fun hc => ?_)
  · replace hh := OK_t hh hc
    refine A_blk hM.1 1 (lv1 := [some (aR 150), some (aI v1), some (aI v2)]) (s1 := [aL (-1)]) (h1 := h) rfl ?_
    exact A_retl hM.1 rfl rfl rfl (hq (-1) hh)
  · replace hh := OK_f hh hc
    refine A_blk hM.1 4 (lv1 := [some (aR 150), some (aI v1), some (aI v2)]) (s1 := [aL 40, aL 1, aL (w32 v2)]) (h1 := h) rfl ?_
    refine A_callS hM rfl rfl (mem_GW 1879 (by decide +kernel) rfl) mi_X12_lies ms_X12_lies (As := [aL (w32 v2), aL 1, aL 40]) (rest := []) (ct_X12_lies (w32 v2) 1 40 h (OK_bind hh)) (by decide) ⟨Nat.zero_le _, Nat.zero_le _⟩ rfl rfl (Nat.le_of_ble_eq_true rfl) (fun r F' h' hq1 => ?_)
    obtain ⟨rfl, r2, rfl, e9, hh⟩ := hq1
    subst h'
    refine A_ifc hM.1 rfl rfl (fun hc => ?_) (fun hc => ?_)
    · replace hh := OK_t hh hc
      refine A_blk hM.1 1 (lv1 := [some (aR 150), some (aI v1), some (aI v2)]) (s1 := [aL (-1)]) (h1 := h) rfl ?_
      exact A_retl hM.1 rfl rfl rfl (hq (-1) hh)
    · replace hh := OK_f hh hc
      refine A_blk hM.1 7 (lv1 := [some (aR 150), some (aI v1), some (aI v2)]) (s1 := [aI v1, aR 150, aL ((shl64 1 v2) - 1)]) (h1 := h) rfl ?_
      refine A_callV hM rfl rfl (mem_GW 2283 (by decide +kernel) rfl) mi_X12_booksTold (As := [aI v1]) (rest := [aL ((shl64 1 v2) - 1)]) (ct_X12_booksTold v1 h (OK_bind hh)) (by decide) ⟨Nat.zero_le _, Nat.zero_le _⟩ rfl rfl (Nat.le_of_ble_eq_true rfl) (by decide) rfl (by decide) rfl (fun r F' h' hq1 => ?_)
      obtain ⟨rfl, r3, rfl, e9, hh⟩ := hq1
      subst h'
      refine A_blk hM.1 3 (lv1 := [some (aR 150), some (aI v1), some (aI v2)]) (s1 := [aL (and64 ((shl64 1 v2) - 1) (xor64 r3 (-1)))]) (h1 := h) rfl ?_
      refine A_go hM.1 rfl rfl ?_
      exact A_retl hM.1 rfl rfl rfl (hq (and64 ((shl64 1 v2) - 1) (xor64 r3 (-1))) hh)

set_option maxRecDepth 20000 in
set_option maxHeartbeats 4000000 in
theorem ct_X12_nobody {G : Gx} (v1 : Int) (v2 : Int) (h : Hp)   {P : Int → Prop} (hh : OK (X12_nobody v1 v2 h) P) : CT G yX12_nobody M_X12_nobody 3 0 0 FN h [aR 150, aI v1, aI v2] (fun r F' h' => F' = FN ∧ ∃ z, r = some (aL z) ∧ h' = h ∧ P z) :=
  CT.of (by decide +kernel) rfl (Nat.le_of_ble_eq_true rfl) k_X12_nobody fun k0 _ _ hM => c_X12_nobody hM v1 v2 h (fun z hz => ⟨rfl, z, rfl, rfl, hz⟩) hh

theorem mi_X12_counts : MIv yX12_counts M_X12_counts 2 := ⟨⟨(mem_GW 2311 (by decide +kernel) rfl), (mem_GW 135 (by decide +kernel) rfl), by decide +kernel, by decide +kernel, by decide +kernel, by decide⟩, (mem_GW 2310 (by decide +kernel) rfl), (mem_GW 117 (by decide +kernel) rfl)⟩
set_option maxRecDepth 20000 in
set_option maxHeartbeats 4000000 in
theorem c_X12_counts {k0 : K0} {G : Gx} {Qp : Option AV → Fx → Hp → Prop} (hM : MB (KM k0 0 0 Qp) G M_X12_counts 1) (v1 : Int) (v2 : Int) (h : Hp)   {P : Hp → Prop} (hq : ∀ z : Hp, P z → Qp none FN z) (hh : OK (X12_counts v1 v2 h) P) : ATk (KM k0 0 0 Qp) FN 0 0 M_X12_counts 0 [some (aR 150), some (aI v1), some (aI v2)] [] h := by
  unfold X12_counts at hh
  refine A_blk hM.1 8 (lv1 := [some (aR 150), some (aI v1), some (aI v2)]) (s1 := [aI ((64 * v1) + v2), aR 194, aI ((64 * v1) + v2), aR 194]) (h1 := h) rfl ?_
  obtain ⟨g1, hh⟩ := OK_g hh
  refine A_ald hM.1 rfl (Or.inl ⟨rfl, rfl⟩) rfl (by decide) rfl g1 ?_
  refine A_blk hM.1 2 (lv1 := [some (aR 150), some (aI v1), some (aI v2)]) (s1 := [aI ((h 194 ((w32 ((64 * v1) + v2)).toNat)) + 1), aI ((64 * v1) + v2), aR 194]) (h1 := h) rfl ?_
  obtain ⟨g2, hh⟩ := OK_g hh
  refine A_ast hM.1 rfl (Or.inl ⟨rfl, rfl, rfl⟩) rfl rfl rfl g2 ?_
  refine A_blk hM.1 4 (lv1 := [some (aR 150), some (aI v1), some (aI v2)]) (s1 := [aI v1, aR 195, aI v1, aR 195]) (h1 := setH h 194 ((w32 ((64 * v1) + v2)).toNat) ((h 194 ((w32 ((64 * v1) + v2)).toNat)) + 1)) rfl ?_
  obtain ⟨g3, hh⟩ := OK_g hh
  refine A_ald hM.1 rfl (Or.inl ⟨rfl, rfl⟩) rfl (by decide) rfl g3 ?_
  refine A_blk hM.1 2 (lv1 := [some (aR 150), some (aI v1), some (aI v2)]) (s1 := [aI ((h 195 ((w32 v1).toNat)) + 1), aI v1, aR 195]) (h1 := setH h 194 ((w32 ((64 * v1) + v2)).toNat) ((h 194 ((w32 ((64 * v1) + v2)).toNat)) + 1)) rfl ?_
  obtain ⟨g4, hh⟩ := OK_g hh
  refine A_ast hM.1 rfl (Or.inl ⟨rfl, rfl, rfl⟩) rfl rfl rfl g4 ?_
  exact A_retv hM.1 rfl rfl rfl (hq (setH (setH h 194 ((w32 ((64 * v1) + v2)).toNat) ((h 194 ((w32 ((64 * v1) + v2)).toNat)) + 1)) 195 ((w32 v1).toNat) ((h 195 ((w32 v1).toNat)) + 1)) hh)

set_option maxRecDepth 20000 in
set_option maxHeartbeats 4000000 in
theorem ct_X12_counts {G : Gx} (v1 : Int) (v2 : Int) (h : Hp)   {P : Hp → Prop} (hh : OK (X12_counts v1 v2 h) P) : CT G yX12_counts M_X12_counts 1 0 0 FN h [aR 150, aI v1, aI v2] (fun r F' h' => F' = FN ∧ r = none ∧ P h') :=
  CT.of (by decide +kernel) rfl (Nat.le_of_ble_eq_true rfl) k_X12_counts fun k0 _ _ hM => c_X12_counts hM v1 v2 h (fun z hz => ⟨rfl, rfl, hz⟩) hh

theorem mi_X12_gathersWords : MIv yX12_gathersWords M_X12_gathersWords 1 := ⟨⟨(mem_GW 2307 (by decide +kernel) rfl), (mem_GW 135 (by decide +kernel) rfl), by decide +kernel, by decide +kernel, by decide +kernel, by decide⟩, (mem_GW 2306 (by decide +kernel) rfl), (mem_GW 116 (by decide +kernel) rfl)⟩
set_option maxRecDepth 20000 in
set_option maxHeartbeats 4000000 in
theorem c_X12_gathersWords_l2 {k0 : K0} {G : Gx} {Qp : Option AV → Fx → Hp → Prop} (hM : MB (KM k0 0 0 Qp) G M_X12_gathersWords 2) (v1 : Int) (x : Int × Hp)   {P : ((Int × Hp) ⊕ (Hp)) → Prop} (hin : ∀ y : Int × Hp, P (.inl y) → ATk (KM k0 0 0 Qp) FN 0 0 M_X12_gathersWords 2 [some (aR 150), some (aI v1), some (aI y.1), none] [] y.2) (hout0 : ∀ y : Hp, P (.inr y) → ATk (KM k0 0 0 Qp) FN 0 0 M_X12_gathersWords 12 [some (aR 150), some (aI v1), none, none] [] y) (hh : OK (X12_gathersWords_l2 v1 x) P) : ATk (KM k0 0 0 Qp) FN 0 0 M_X12_gathersWords 2 [some (aR 150), some (aI v1), some (aI x.1), none] [] x.2 := by
  unfold X12_gathersWords_l2 at hh
  refine A_blk hM.1 2 (lv1 := [some (aR 150), some (aI v1), some (aI x.1), none]) (s1 := [aI 512, aI x.1]) (h1 := x.2) rfl ?_
  refine A_icmp hM.1 rfl rfl (fun hc => ?_) (fun hc => ?_)
  · replace hh := OK_t hh hc
    refine A_mask [true, true, false, true] (lv1 := [some (aR 150), some (aI v1), none, none]) rfl ?_
    exact hout0 x.2 hh
  · replace hh := OK_f hh hc
    refine A_blk hM.1 4 (lv1 := [some (aR 150), some (aI v1), some (aI x.1), none]) (s1 := [aI 0, aI x.1, aR 194]) (h1 := x.2) rfl ?_
    obtain ⟨g1, hh⟩ := OK_g hh
    refine A_ast hM.1 rfl (Or.inl ⟨rfl, rfl, rfl⟩) rfl rfl rfl g1 ?_
    refine A_blk hM.1 1 (lv1 := [some (aR 150), some (aI v1), some (aI (x.1 + 1)), none]) (s1 := []) (h1 := setH x.2 194 ((w32 x.1).toNat) 0) rfl ?_
    refine A_go hM.1 rfl rfl ?_
    exact hin (x.1 + 1, setH x.2 194 ((w32 x.1).toNat) 0) hh

set_option maxRecDepth 20000 in
set_option maxHeartbeats 4000000 in
theorem c_X12_gathersWords_l14 {k0 : K0} {G : Gx} {Qp : Option AV → Fx → Hp → Prop} (hM : MB (KM k0 0 0 Qp) G M_X12_gathersWords 2) (v1 : Int) (x : Int × Hp)   {P : ((Int × Hp) ⊕ (Hp)) → Prop} (hin : ∀ y : Int × Hp, P (.inl y) → ATk (KM k0 0 0 Qp) FN 0 0 M_X12_gathersWords 14 [some (aR 150), some (aI v1), some (aI y.1), none] [] y.2) (hout0 : ∀ y : Hp, P (.inr y) → ATk (KM k0 0 0 Qp) FN 0 0 M_X12_gathersWords 25 [some (aR 150), some (aI v1), none, none] [] y) (hh : OK (X12_gathersWords_l14 v1 x) P) : ATk (KM k0 0 0 Qp) FN 0 0 M_X12_gathersWords 14 [some (aR 150), some (aI v1), some (aI x.1), none] [] x.2 := by
  unfold X12_gathersWords_l14 at hh
  refine A_blk hM.1 3 (lv1 := [some (aR 150), some (aI v1), some (aI x.1), none]) (s1 := [aI (x.2 150 2), aI x.1]) (h1 := x.2) rfl ?_
  refine A_icmp hM.1 rfl rfl (fun hc => ?_) (fun hc => ?_)
  · replace hh := OK_t hh hc
    refine A_mask [true, true, false, true] (lv1 := [some (aR 150), some (aI v1), none, none]) rfl ?_
    exact hout0 x.2 hh
  · replace hh := OK_f hh hc
    refine A_blk hM.1 4 (lv1 := [some (aR 150), some (aI v1), some (aI x.1), none]) (s1 := [aI 0, aI x.1, aR 195]) (h1 := x.2) rfl ?_
    obtain ⟨g3, hh⟩ := OK_g hh
    refine A_ast hM.1 rfl (Or.inl ⟨rfl, rfl, rfl⟩) rfl rfl rfl g3 ?_
    refine A_blk hM.1 1 (lv1 := [some (aR 150), some (aI v1), some (aI (x.1 + 1)), none]) (s1 := []) (h1 := setH x.2 195 ((w32 x.1).toNat) 0) rfl ?_
    refine A_go hM.1 rfl rfl ?_
    exact hin (x.1 + 1, setH x.2 195 ((w32 x.1).toNat) 0) hh

set_option maxRecDepth 20000 in
set_option maxHeartbeats 4000000 in
theorem c_X12_gathersWords_l33 {k0 : K0} {G : Gx} {Qp : Option AV → Fx → Hp → Prop} (hM : MB (KM k0 0 0 Qp) G M_X12_gathersWords 2) (v1 : Int) (v2 : Int) (x : Int × Hp)   {P : ((Int × Hp) ⊕ (Hp)) → Prop} (hin : ∀ y : Int × Hp, P (.inl y) → ATk (KM k0 0 0 Qp) FN 0 0 M_X12_gathersWords 33 [some (aR 150), some (aI v1), some (aI v2), some (aI y.1)] [] y.2) (hout0 : ∀ y : Hp, P (.inr y) → ATk (KM k0 0 0 Qp) FN 0 0 M_X12_gathersWords 55 [some (aR 150), some (aI v1), some (aI v2), none] [] y) (hh : OK (X12_gathersWords_l33 v1 v2 x) P) : ATk (KM k0 0 0 Qp) FN 0 0 M_X12_gathersWords 33 [some (aR 150), some (aI v1), some (aI v2), some (aI x.1)] [] x.2 := by
  unfold X12_gathersWords_l33 at hh
  refine A_blk hM.1 4 (lv1 := [some (aR 150), some (aI v1), some (aI v2), some (aI x.1)]) (s1 := [aI v2, aR 156, aI x.1]) (h1 := x.2) rfl ?_
  obtain ⟨g5, hh⟩ := OK_g hh
  refine A_ald hM.1 rfl (Or.inl ⟨rfl, rfl⟩) rfl (by decide) rfl g5 ?_
  refine A_icmp hM.1 rfl rfl (fun hc => ?_) (fun hc => ?_)
  · replace hh := OK_t hh hc
    refine A_mask [true, true, true, false] (lv1 := [some (aR 150), some (aI v1), some (aI v2), none]) rfl ?_
    exact hout0 x.2 hh
  · replace hh := OK_f hh hc
    refine A_blk hM.1 4 (lv1 := [some (aR 150), some (aI v1), some (aI v2), some (aI x.1)]) (s1 := [aI v2, aR 154, aR 150]) (h1 := x.2) rfl ?_
    obtain ⟨g6, hh⟩ := OK_g hh
    refine A_ald hM.1 rfl (Or.inl ⟨rfl, rfl⟩) rfl (by decide) rfl g6 ?_
    refine A_blk hM.1 7 (lv1 := [some (aR 150), some (aI v1), some (aI v2), some (aI x.1)]) (s1 := [aI ((40 * v2) + x.1), aR 157, aI (x.2 154 ((w32 v2).toNat)), aR 150]) (h1 := x.2) rfl ?_
    obtain ⟨g7, hh⟩ := OK_g hh
    refine A_ald hM.1 rfl (Or.inl ⟨rfl, rfl⟩) rfl (by decide) rfl g7 ?_
    refine A_callV hM rfl rfl (mem_GW 2308 (by decide +kernel) rfl) mi_X12_counts (As := [aI (x.2 154 ((w32 v2).toNat)), aI (x.2 157 ((w32 ((40 * v2) + x.1)).toNat))]) (rest := []) (ct_X12_counts (x.2 154 ((w32 v2).toNat)) (x.2 157 ((w32 ((40 * v2) + x.1)).toNat)) x.2 (OK_bind hh)) (by decide) ⟨Nat.zero_le _, Nat.zero_le _⟩ rfl rfl (Nat.le_of_ble_eq_true rfl) (by decide) rfl (by decide) rfl (fun r F' h' hq1 => ?_)
    obtain ⟨rfl, rfl, hh⟩ := hq1
    obtain ⟨r8, rfl⟩ : ∃ z, z = h' := ⟨_, rfl⟩
    refine A_blk hM.1 1 (lv1 := [some (aR 150), some (aI v1), some (aI v2), some (aI (x.1 + 1))]) (s1 := []) (h1 := r8) rfl ?_
    refine A_go hM.1 rfl rfl ?_
    exact hin (x.1 + 1, r8) hh

set_option maxRecDepth 20000 in
set_option maxHeartbeats 4000000 in
theorem c_X12_gathersWords_l27 {k0 : K0} {G : Gx} {Qp : Option AV → Fx → Hp → Prop} (hM : MB (KM k0 0 0 Qp) G M_X12_gathersWords 2) (v1 : Int) (x : Int × Hp)   {P : ((Int × Hp) ⊕ (Hp)) → Prop} (hin : ∀ y : Int × Hp, P (.inl y) → ATk (KM k0 0 0 Qp) FN 0 0 M_X12_gathersWords 27 [some (aR 150), some (aI v1), some (aI y.1), none] [] y.2) (hout0 : ∀ y : Hp, P (.inr y) → ATk (KM k0 0 0 Qp) FN 0 0 M_X12_gathersWords 57 [some (aR 150), some (aI v1), none, none] [] y) (hh : OK (X12_gathersWords_l27 v1 x) P) : ATk (KM k0 0 0 Qp) FN 0 0 M_X12_gathersWords 27 [some (aR 150), some (aI v1), some (aI x.1), none] [] x.2 := by
  unfold X12_gathersWords_l27 at hh
  refine A_blk hM.1 3 (lv1 := [some (aR 150), some (aI v1), some (aI x.1), none]) (s1 := [aI (x.2 150 3), aI x.1]) (h1 := x.2) rfl ?_
  refine A_icmp hM.1 rfl rfl (fun hc => ?_) (fun hc => ?_)
  · replace hh := OK_t hh hc
    refine A_mask [true, true, false, true] (lv1 := [some (aR 150), some (aI v1), none, none]) rfl ?_
    exact hout0 x.2 hh
  · replace hh := OK_f hh hc
    refine A_blk hM.1 2 (lv1 := [some (aR 150), some (aI v1), some (aI x.1), some (aI 0)]) (s1 := []) (h1 := x.2) rfl ?_
    refine iter_ok (s := (0, x.2)) (Gp := fun z => ATk (KM k0 0 0 Qp) FN 0 0 M_X12_gathersWords 33 [some (aR 150), some (aI v1), some (aI x.1), some (aI z.1)] [] z.2) (E := fun z => ATk (KM k0 0 0 Qp) FN 0 0 M_X12_gathersWords 55 [some (aR 150), some (aI v1), some (aI x.1), none] [] z) (fun z P1 g1 g2 g3 => c_X12_gathersWords_l33 hM v1 x.1 z g2 g3 g1) (OK_bind hh) (fun x9 hh => ?_)
    refine A_blk hM.1 1 (lv1 := [some (aR 150), some (aI v1), some (aI (x.1 + 1)), none]) (s1 := []) (h1 := x9) rfl ?_
    refine A_go hM.1 rfl rfl ?_
    exact hin (x.1 + 1, x9) hh

set_option maxRecDepth 20000 in
set_option maxHeartbeats 4000000 in
theorem c_X12_gathersWords_j100 {k0 : K0} {G : Gx} {Qp : Option AV → Fx → Hp → Prop} (hM : MB (KM k0 0 0 Qp) G M_X12_gathersWords 2) (v1 : Int) (v2 : Int) (h : Hp)   {P : ((Int × Hp) ⊕ (Hp)) → Prop} (hin : ∀ y : Int × Hp, P (.inl y) → ATk (KM k0 0 0 Qp) FN 0 0 M_X12_gathersWords 59 [some (aR 150), some (aI v1), some (aI y.1), none] [] y.2) (hout0 : ∀ y : Hp, P (.inr y) → ATk (KM k0 0 0 Qp) FN 0 0 M_X12_gathersWords 102 [none, none, none, none] [] y) (hh : OK (X12_gathersWords_j100 v1 v2 h) P) : ATk (KM k0 0 0 Qp) FN 0 0 M_X12_gathersWords 100 [some (aR 150), some (aI v1), some (aI v2), none] [] h := by
  unfold X12_gathersWords_j100 at hh
  refine A_blk hM.1 1 (lv1 := [some (aR 150), some (aI v1), some (aI (v2 + 1)), none]) (s1 := []) (h1 := h) rfl ?_
  refine A_go hM.1 rfl rfl ?_
  exact hin (v2 + 1, h) hh

set_option maxRecDepth 20000 in
set_option maxHeartbeats 4000000 in
theorem c_X12_gathersWords_l75 {k0 : K0} {G : Gx} {Qp : Option AV → Fx → Hp → Prop} (hM : MB (KM k0 0 0 Qp) G M_X12_gathersWords 2) (v1 : Int) (v2 : Int) (x : Int × Hp)   {P : ((Int × Hp) ⊕ (Hp)) → Prop} (hin : ∀ y : Int × Hp, P (.inl y) → ATk (KM k0 0 0 Qp) FN 0 0 M_X12_gathersWords 75 [some (aR 150), some (aI v1), some (aI v2), some (aI y.1)] [] y.2) (hout0 : ∀ y : Hp, P (.inr y) → ATk (KM k0 0 0 Qp) FN 0 0 M_X12_gathersWords 100 [some (aR 150), some (aI v1), some (aI v2), none] [] y) (hh : OK (X12_gathersWords_l75 v1 v2 x) P) : ATk (KM k0 0 0 Qp) FN 0 0 M_X12_gathersWords 75 [some (aR 150), some (aI v1), some (aI v2), some (aI x.1)] [] x.2 := by
  unfold X12_gathersWords_l75 at hh
  refine A_blk hM.1 4 (lv1 := [some (aR 150), some (aI v1), some (aI v2), some (aI x.1)]) (s1 := [aI v2, aR 164, aI x.1]) (h1 := x.2) rfl ?_
  obtain ⟨g12, hh⟩ := OK_g hh
  refine A_ald hM.1 rfl (Or.inl ⟨rfl, rfl⟩) rfl (by decide) rfl g12 ?_
  refine A_icmp hM.1 rfl rfl (fun hc => ?_) (fun hc => ?_)
  · replace hh := OK_t hh hc
    refine A_mask [true, true, true, false] (lv1 := [some (aR 150), some (aI v1), some (aI v2), none]) rfl ?_
    exact hout0 x.2 hh
  · replace hh := OK_f hh hc
    refine A_blk hM.1 6 (lv1 := [some (aR 150), some (aI v1), some (aI v2), some (aI x.1)]) (s1 := [aI v2, aR 161, aR 154, aR 150]) (h1 := x.2) rfl ?_
    obtain ⟨g13, hh⟩ := OK_g hh
    refine A_ald hM.1 rfl (Or.inl ⟨rfl, rfl⟩) rfl (by decide) rfl g13 ?_
    obtain ⟨g14, hh⟩ := OK_g hh
    refine A_ald hM.1 rfl (Or.inl ⟨rfl, rfl⟩) rfl (by decide) rfl g14 ?_
    refine A_blk hM.1 7 (lv1 := [some (aR 150), some (aI v1), some (aI v2), some (aI x.1)]) (s1 := [aI ((8 * v2) + x.1), aR 165, aI (x.2 154 ((w32 (x.2 161 ((w32 v2).toNat))).toNat)), aR 150]) (h1 := x.2) rfl ?_
    obtain ⟨g15, hh⟩ := OK_g hh
    refine A_ald hM.1 rfl (Or.inl ⟨rfl, rfl⟩) rfl (by decide) rfl g15 ?_
    refine A_callV hM rfl rfl (mem_GW 2308 (by decide +kernel) rfl) mi_X12_counts (As := [aI (x.2 154 ((w32 (x.2 161 ((w32 v2).toNat))).toNat)), aI (x.2 165 ((w32 ((8 * v2) + x.1)).toNat))]) (rest := []) (ct_X12_counts (x.2 154 ((w32 (x.2 161 ((w32 v2).toNat))).toNat)) (x.2 165 ((w32 ((8 * v2) + x.1)).toNat)) x.2 (OK_bind hh)) (by decide) ⟨Nat.zero_le _, Nat.zero_le _⟩ rfl rfl (Nat.le_of_ble_eq_true rfl) (by decide) rfl (by decide) rfl (fun r F' h' hq1 => ?_)
    obtain ⟨rfl, rfl, hh⟩ := hq1
    obtain ⟨r16, rfl⟩ : ∃ z, z = h' := ⟨_, rfl⟩
    refine A_blk hM.1 1 (lv1 := [some (aR 150), some (aI v1), some (aI v2), some (aI (x.1 + 1))]) (s1 := []) (h1 := r16) rfl ?_
    refine A_go hM.1 rfl rfl ?_
    exact hin (x.1 + 1, r16) hh

set_option maxRecDepth 20000 in
set_option maxHeartbeats 4000000 in
theorem c_X12_gathersWords_l59 {k0 : K0} {G : Gx} {Qp : Option AV → Fx → Hp → Prop} (hM : MB (KM k0 0 0 Qp) G M_X12_gathersWords 2) (v1 : Int) (x : Int × Hp)   {P : ((Int × Hp) ⊕ (Hp)) → Prop} (hin : ∀ y : Int × Hp, P (.inl y) → ATk (KM k0 0 0 Qp) FN 0 0 M_X12_gathersWords 59 [some (aR 150), some (aI v1), some (aI y.1), none] [] y.2) (hout0 : ∀ y : Hp, P (.inr y) → ATk (KM k0 0 0 Qp) FN 0 0 M_X12_gathersWords 102 [none, none, none, none] [] y) (hh : OK (X12_gathersWords_l59 v1 x) P) : ATk (KM k0 0 0 Qp) FN 0 0 M_X12_gathersWords 59 [some (aR 150), some (aI v1), some (aI x.1), none] [] x.2 := by
  unfold X12_gathersWords_l59 at hh
  refine A_blk hM.1 3 (lv1 := [some (aR 150), some (aI v1), some (aI x.1), none]) (s1 := [aI (x.2 150 5), aI x.1]) (h1 := x.2) rfl ?_
  refine A_icmp hM.1 rfl rfl (fun hc => ?_) (fun hc => ?_)
  · replace hh := OK_t hh hc
    refine A_mask [false, false, false, true] (lv1 := [none, none, none, none]) rfl ?_
    exact hout0 x.2 hh
  · replace hh := OK_f hh hc
    refine A_blk hM.1 2 (lv1 := [some (aR 150), some (aI v1), some (aI x.1), none]) (s1 := [aI v1, aI x.1]) (h1 := x.2) rfl ?_
    refine A_icmp hM.1 rfl rfl (fun hc => ?_) (fun hc => ?_)
    · replace hh := OK_t hh hc
      exact c_X12_gathersWords_j100 hM v1 x.1 x.2 hin hout0 hh
    · replace hh := OK_f hh hc
      refine A_blk hM.1 3 (lv1 := [some (aR 150), some (aI v1), some (aI x.1), none]) (s1 := [aI x.1, aR 161]) (h1 := x.2) rfl ?_
      obtain ⟨g11, hh⟩ := OK_g hh
      refine A_ald hM.1 rfl (Or.inl ⟨rfl, rfl⟩) rfl (by decide) rfl g11 ?_
      refine A_blk hM.1 1 (lv1 := [some (aR 150), some (aI v1), some (aI x.1), none]) (s1 := [aI (-1), aI (x.2 161 ((w32 x.1).toNat))]) (h1 := x.2) rfl ?_
      refine A_icmp hM.1 rfl rfl (fun hc => ?_) (fun hc => ?_)
      · replace hh := OK_t hh hc
        refine A_blk hM.1 2 (lv1 := [some (aR 150), some (aI v1), some (aI x.1), some (aI 0)]) (s1 := []) (h1 := x.2) rfl ?_
        refine iter_ok (s := (0, x.2)) (Gp := fun z => ATk (KM k0 0 0 Qp) FN 0 0 M_X12_gathersWords 75 [some (aR 150), some (aI v1), some (aI x.1), some (aI z.1)] [] z.2) (E := fun z => ATk (KM k0 0 0 Qp) FN 0 0 M_X12_gathersWords 100 [some (aR 150), some (aI v1), some (aI x.1), none] [] z) (fun z P1 g1 g2 g3 => c_X12_gathersWords_l75 hM v1 x.1 z g2 g3 g1) (OK_bind hh) (fun x17 hh => ?_)
        exact c_X12_gathersWords_j100 hM v1 x.1 x17 hin hout0 hh
      · replace hh := OK_f hh hc
        refine A_go hM.1 rfl rfl ?_
        exact c_X12_gathersWords_j100 hM v1 x.1 x.2 hin hout0 hh

set_option maxRecDepth 20000 in
set_option maxHeartbeats 4000000 in
theorem c_X12_gathersWords {k0 : K0} {G : Gx} {Qp : Option AV → Fx → Hp → Prop} (hM : MB (KM k0 0 0 Qp) G M_X12_gathersWords 2) (v1 : Int) (h : Hp)   {P : Hp → Prop} (hq : ∀ z : Hp, P z → Qp none FN z) (hh : OK (X12_gathersWords v1 h) P) : ATk (KM k0 0 0 Qp) FN 0 0 M_X12_gathersWords 0 [some (aR 150), some (aI v1), none, none] [] h := by
  unfold X12_gathersWords at hh
  refine A_blk hM.1 2 (lv1 := [some (aR 150), some (aI v1), some (aI 0), none]) (s1 := []) (h1 := h) rfl ?_
  refine iter_ok (s := (0, h)) (Gp := fun z => ATk (KM k0 0 0 Qp) FN 0 0 M_X12_gathersWords 2 [some (aR 150), some (aI v1), some (aI z.1), none] [] z.2) (E := fun z => ATk (KM k0 0 0 Qp) FN 0 0 M_X12_gathersWords 12 [some (aR 150), some (aI v1), none, none] [] z) (fun z P1 g1 g2 g3 => c_X12_gathersWords_l2 hM v1 z g2 g3 g1) (OK_bind hh) (fun x2 hh => ?_)
  refine A_blk hM.1 2 (lv1 := [some (aR 150), some (aI v1), some (aI 0), none]) (s1 := []) (h1 := x2) rfl ?_
  refine iter_ok (s := (0, x2)) (Gp := fun z => ATk (KM k0 0 0 Qp) FN 0 0 M_X12_gathersWords 14 [some (aR 150), some (aI v1), some (aI z.1), none] [] z.2) (E := fun z => ATk (KM k0 0 0 Qp) FN 0 0 M_X12_gathersWords 25 [some (aR 150), some (aI v1), none, none] [] z) (fun z P1 g1 g2 g3 => c_X12_gathersWords_l14 hM v1 z g2 g3 g1) (OK_bind hh) (fun x4 hh => ?_)
  refine A_blk hM.1 2 (lv1 := [some (aR 150), some (aI v1), some (aI 0), none]) (s1 := []) (h1 := x4) rfl ?_
  refine iter_ok (s := (0, x4)) (Gp := fun z => ATk (KM k0 0 0 Qp) FN 0 0 M_X12_gathersWords 27 [some (aR 150), some (aI v1), some (aI z.1), none] [] z.2) (E := fun z => ATk (KM k0 0 0 Qp) FN 0 0 M_X12_gathersWords 57 [some (aR 150), some (aI v1), none, none] [] z) (fun z P1 g1 g2 g3 => c_X12_gathersWords_l27 hM v1 z g2 g3 g1) (OK_bind hh) (fun x10 hh => ?_)
  refine A_blk hM.1 2 (lv1 := [some (aR 150), some (aI v1), some (aI 0), none]) (s1 := []) (h1 := x10) rfl ?_
  refine iter_ok (s := (0, x10)) (Gp := fun z => ATk (KM k0 0 0 Qp) FN 0 0 M_X12_gathersWords 59 [some (aR 150), some (aI v1), some (aI z.1), none] [] z.2) (E := fun z => ATk (KM k0 0 0 Qp) FN 0 0 M_X12_gathersWords 102 [none, none, none, none] [] z) (fun z P1 g1 g2 g3 => c_X12_gathersWords_l59 hM v1 z g2 g3 g1) (OK_bind hh) (fun x18 hh => ?_)
  exact A_retv hM.1 rfl rfl rfl (hq x18 hh)

set_option maxRecDepth 20000 in
set_option maxHeartbeats 4000000 in
theorem ct_X12_gathersWords {G : Gx} (v1 : Int) (h : Hp)   {P : Hp → Prop} (hh : OK (X12_gathersWords v1 h) P) : CT G yX12_gathersWords M_X12_gathersWords 2 0 0 FN h [aR 150, aI v1] (fun r F' h' => F' = FN ∧ r = none ∧ P h') :=
  CT.of (by decide +kernel) rfl (Nat.le_of_ble_eq_true rfl) k_X12_gathersWords fun k0 _ _ hM => c_X12_gathersWords hM v1 h (fun z hz => ⟨rfl, rfl, hz⟩) hh

theorem mi_X12_pointsFor : MIv yX12_pointsFor M_X12_pointsFor 2 := ⟨⟨(mem_GW 2315 (by decide +kernel) rfl), (mem_GW 135 (by decide +kernel) rfl), by decide +kernel, by decide +kernel, by decide +kernel, by decide⟩, (mem_GW 2314 (by decide +kernel) rfl), (mem_GW 118 (by decide +kernel) rfl)⟩
set_option maxRecDepth 20000 in
set_option maxHeartbeats 4000000 in
theorem c_X12_pointsFor_l4 {k0 : K0} {G : Gx} {Qp : Option AV → Fx → Hp → Prop} (hM : MB (KM k0 0 0 Qp) G M_X12_pointsFor 5) (v1 : Int) (v2 : Int) (x : Int × Int × Hp)   {P : ((Int × Int × Hp) ⊕ (Int × Hp)) → Prop} (hin : ∀ y : Int × Int × Hp, P (.inl y) → ATk (KM k0 0 0 Qp) FN 0 0 M_X12_pointsFor 4 [some (aR 150), some (aI v1), some (aI v2), some (aI y.1), some (aI y.2.1)] [] y.2.2) (hout0 : ∀ y : Int × Hp, P (.inr y) → ATk (KM k0 0 0 Qp) FN 0 0 M_X12_pointsFor 65 [none, none, none, some (aI y.1), none] [] y.2) (hh : OK (X12_pointsFor_l4 v1 v2 x) P) : ATk (KM k0 0 0 Qp) FN 0 0 M_X12_pointsFor 4 [some (aR 150), some (aI v1), some (aI v2), some (aI x.1), some (aI x.2.1)] [] x.2.2 := by
  unfold X12_pointsFor_l4 at hh
  refine A_blk hM.1 4 (lv1 := [some (aR 150), some (aI v1), some (aI v2), some (aI x.1), some (aI x.2.1)]) (s1 := [aI v1, aR 164, aI x.2.1]) (h1 := x.2.2) rfl ?_
  obtain ⟨g1, hh⟩ := OK_g hh
  refine A_ald hM.1 rfl (Or.inl ⟨rfl, rfl⟩) rfl (by decide) rfl g1 ?_
  refine A_icmp hM.1 rfl rfl (fun hc => ?_) (fun hc => ?_)
  · replace hh := OK_t hh hc
    refine A_mask [false, false, false, true, false] (lv1 := [none, none, none, some (aI x.1), none]) rfl ?_
    exact hout0 (x.1, x.2.2) hh
  · replace hh := OK_f hh hc
    refine A_blk hM.1 1 (lv1 := [some (aR 150), some (aI v1), some (aI v2), some (aI x.1), some (aI x.2.1)]) (s1 := [aR 150]) (h1 := x.2.2) rfl ?_
    refine A_callV hM rfl rfl (mem_GW 2059 (by decide +kernel) rfl) mi_X12_clears (As := []) (rest := []) (ct_X12_clears x.2.2 (OK_bind hh)) (by decide) ⟨Nat.zero_le _, Nat.zero_le _⟩ rfl rfl (Nat.le_of_ble_eq_true rfl) (by decide) rfl (by decide) rfl (fun r F' h' hq1 => ?_)
    obtain ⟨rfl, rfl, hh⟩ := hq1
    obtain ⟨r2, rfl⟩ : ∃ z, z = h' := ⟨_, rfl⟩
    refine A_blk hM.1 8 (lv1 := [some (aR 150), some (aI v1), some (aI v2), some (aI x.1), some (aI x.2.1)]) (s1 := [aI ((8 * v1) + x.2.1), aR 165, aR 150]) (h1 := r2) rfl ?_
    obtain ⟨g3, hh⟩ := OK_g hh
    refine A_ald hM.1 rfl (Or.inl ⟨rfl, rfl⟩) rfl (by decide) rfl g3 ?_
    refine A_blk hM.1 10 (lv1 := [some (aR 150), some (aI v1), some (aI v2), some (aI x.1), some (aI x.2.1)]) (s1 := [aI ((64 * v2) + (r2 165 ((w32 ((8 * v1) + x.2.1)).toNat))), aR 194, aR 150]) (h1 := setH r2 150 54 (r2 165 ((w32 ((8 * v1) + x.2.1)).toNat))) rfl ?_
    obtain ⟨g4, hh⟩ := OK_g hh
    refine A_ald hM.1 rfl (Or.inl ⟨rfl, rfl⟩) rfl (by decide) rfl g4 ?_
    refine A_blk hM.1 5 (lv1 := [some (aR 150), some (aI v1), some (aI v2), some (aI x.1), some (aI x.2.1)]) (s1 := [aI v2, aR 195, aR 150]) (h1 := setH (setH r2 150 54 (r2 165 ((w32 ((8 * v1) + x.2.1)).toNat))) 150 50 (r2 194 ((w32 ((64 * v2) + (r2 165 ((w32 ((8 * v1) + x.2.1)).toNat)))).toNat))) rfl ?_
    obtain ⟨g5, hh⟩ := OK_g hh
    refine A_ald hM.1 rfl (Or.inl ⟨rfl, rfl⟩) rfl (by decide) rfl g5 ?_
    refine A_blk hM.1 5 (lv1 := [some (aR 150), some (aI v1), some (aI v2), some (aI x.1), some (aI x.2.1)]) (s1 := [aI v2, aR 153, aR 150]) (h1 := setH (setH (setH r2 150 54 (r2 165 ((w32 ((8 * v1) + x.2.1)).toNat))) 150 50 (r2 194 ((w32 ((64 * v2) + (r2 165 ((w32 ((8 * v1) + x.2.1)).toNat)))).toNat))) 150 53 (r2 195 ((w32 v2).toNat))) rfl ?_
    obtain ⟨g6, hh⟩ := OK_g hh
    refine A_ald hM.1 rfl (Or.inl ⟨rfl, rfl⟩) rfl (by decide) rfl g6 ?_
    refine A_blk hM.1 8 (lv1 := [some (aR 150), some (aI v1), some (aI v2), some (aI x.1), some (aI x.2.1)]) (s1 := [aI v2, aR 152, aR 150]) (h1 := setH (setH (setH (setH (setH r2 150 54 (r2 165 ((w32 ((8 * v1) + x.2.1)).toNat))) 150 50 (r2 194 ((w32 ((64 * v2) + (r2 165 ((w32 ((8 * v1) + x.2.1)).toNat)))).toNat))) 150 53 (r2 195 ((w32 v2).toNat))) 150 51 (r2 153 ((w32 v2).toNat))) 150 46 x.2.1) rfl ?_
    obtain ⟨g7, hh⟩ := OK_g hh
    refine A_ald hM.1 rfl (Or.inl ⟨rfl, rfl⟩) rfl (by decide) rfl g7 ?_
    refine A_blk hM.1 7 (lv1 := [some (aR 150), some (aI v1), some (aI v2), some (aI x.1), some (aI x.2.1)]) (s1 := [aI 1000, aI (-1000), aI 104, aI 9, aR 150, aI x.1]) (h1 := setH (setH (setH (setH (setH (setH r2 150 54 (r2 165 ((w32 ((8 * v1) + x.2.1)).toNat))) 150 50 (r2 194 ((w32 ((64 * v2) + (r2 165 ((w32 ((8 * v1) + x.2.1)).toNat)))).toNat))) 150 53 (r2 195 ((w32 v2).toNat))) 150 51 (r2 153 ((w32 v2).toNat))) 150 46 x.2.1) 150 56 (r2 152 ((w32 v2).toNat))) rfl ?_
    refine A_callV hM rfl rfl (mem_GW 2063 (by decide +kernel) rfl) mi_X12_tells (As := [aI 9, aI 104, aI (-1000), aI 1000]) (rest := [aI x.1]) (ct_X12_tells 9 104 (-1000) 1000 (setH (setH (setH (setH (setH (setH r2 150 54 (r2 165 ((w32 ((8 * v1) + x.2.1)).toNat))) 150 50 (r2 194 ((w32 ((64 * v2) + (r2 165 ((w32 ((8 * v1) + x.2.1)).toNat)))).toNat))) 150 53 (r2 195 ((w32 v2).toNat))) 150 51 (r2 153 ((w32 v2).toNat))) 150 46 x.2.1) 150 56 (r2 152 ((w32 v2).toNat))) (OK_bind hh)) (by decide) ⟨Nat.zero_le _, Nat.zero_le _⟩ rfl rfl (Nat.le_of_ble_eq_true rfl) (by decide) rfl (by decide) rfl (fun r F' h' hq1 => ?_)
    obtain ⟨rfl, r8, rfl, e9, hh⟩ := hq1
    subst h'
    refine A_blk hM.1 3 (lv1 := [some (aR 150), some (aI v1), some (aI v2), some (aI (x.1 + r8.1)), some (aI (x.2.1 + 1))]) (s1 := []) (h1 := r8.2) rfl ?_
    refine A_go hM.1 rfl rfl ?_
    exact hin (x.1 + r8.1, x.2.1 + 1, r8.2) hh

set_option maxRecDepth 20000 in
set_option maxHeartbeats 4000000 in
theorem c_X12_pointsFor {k0 : K0} {G : Gx} {Qp : Option AV → Fx → Hp → Prop} (hM : MB (KM k0 0 0 Qp) G M_X12_pointsFor 5) (v1 : Int) (v2 : Int) (h : Hp)   {P : (Int × Hp) → Prop} (hq : ∀ z : Int × Hp, P z → Qp (some (aI z.1)) FN z.2) (hh : OK (X12_pointsFor v1 v2 h) P) : ATk (KM k0 0 0 Qp) FN 0 0 M_X12_pointsFor 0 [some (aR 150), some (aI v1), some (aI v2), none, none] [] h := by
  unfold X12_pointsFor at hh
  refine A_blk hM.1 4 (lv1 := [some (aR 150), some (aI v1), some (aI v2), some (aI 0), some (aI 0)]) (s1 := []) (h1 := h) rfl ?_
  refine iter_ok (s := (0, 0, h)) (Gp := fun z => ATk (KM k0 0 0 Qp) FN 0 0 M_X12_pointsFor 4 [some (aR 150), some (aI v1), some (aI v2), some (aI z.1), some (aI z.2.1)] [] z.2.2) (E := fun z => ATk (KM k0 0 0 Qp) FN 0 0 M_X12_pointsFor 65 [none, none, none, some (aI z.1), none] [] z.2) (fun z P1 g1 g2 g3 => c_X12_pointsFor_l4 hM v1 v2 z g2 g3 g1) (OK_bind hh) (fun x9 hh => ?_)
  refine A_blk hM.1 1 (lv1 := [none, none, none, some (aI x9.1), none]) (s1 := [aI x9.1]) (h1 := x9.2) rfl ?_
  exact A_reti hM.1 rfl rfl rfl (hq (x9.1, x9.2) hh)

set_option maxRecDepth 20000 in
set_option maxHeartbeats 4000000 in
theorem ct_X12_pointsFor {G : Gx} (v1 : Int) (v2 : Int) (h : Hp)   {P : (Int × Hp) → Prop} (hh : OK (X12_pointsFor v1 v2 h) P) : CT G yX12_pointsFor M_X12_pointsFor 5 0 0 FN h [aR 150, aI v1, aI v2] (fun r F' h' => F' = FN ∧ ∃ z, r = some (aI z.1) ∧ h' = z.2 ∧ P z) :=
  CT.of (by decide +kernel) rfl (Nat.le_of_ble_eq_true rfl) k_X12_pointsFor fun k0 _ _ hM => c_X12_pointsFor hM v1 v2 h (fun z hz => ⟨rfl, z, rfl, rfl, hz⟩) hh

theorem mi_X12_whose : MIv yX12_whose M_X12_whose 2 := ⟨⟨(mem_GW 2302 (by decide +kernel) rfl), (mem_GW 135 (by decide +kernel) rfl), by decide +kernel, by decide +kernel, by decide +kernel, by decide⟩, (mem_GW 2300 (by decide +kernel) rfl), (mem_GW 2301 (by decide +kernel) rfl)⟩
set_option maxRecDepth 20000 in
set_option maxHeartbeats 4000000 in
theorem c_X12_whose_j38 {k0 : K0} {G : Gx} {Qp : Option AV → Fx → Hp → Prop} (hM : MB (KM k0 0 0 Qp) G M_X12_whose 6) (v1 : Int) (v2 : Int) (v4 : Int) (s0 : Int) (h : Hp)   {P : ((Int × Int × Hp) ⊕ (Int × Hp)) → Prop} (hin : ∀ y : Int × Int × Hp, P (.inl y) → ATk (KM k0 0 0 Qp) FN 0 0 M_X12_whose 22 [some (aR 150), some (aI v1), some (aI v2), some (aI y.1), some (aI y.2.1), none] [] y.2.2) (hout0 : ∀ y : Int × Hp, P (.inr y) → ATk (KM k0 0 0 Qp) FN 0 0 M_X12_whose 41 [some (aR 150), some (aI v1), some (aI v2), some (aI y.1), none, none] [] y.2) (hh : OK (X12_whose_j38 v1 v2 v4 s0 h) P) : ATk (KM k0 0 0 Qp) FN 0 0 M_X12_whose 38 [some (aR 150), some (aI v1), some (aI v2), none, some (aI v4), none] [aI s0] h := by
  unfold X12_whose_j38 at hh
  refine A_blk hM.1 2 (lv1 := [some (aR 150), some (aI v1), some (aI v2), some (aI s0), some (aI (v4 + 1)), none]) (s1 := []) (h1 := h) rfl ?_
  refine A_go hM.1 rfl rfl ?_
  exact hin (s0, v4 + 1, h) hh

set_option maxRecDepth 20000 in
set_option maxHeartbeats 4000000 in
theorem c_X12_whose_l22 {k0 : K0} {G : Gx} {Qp : Option AV → Fx → Hp → Prop} (hM : MB (KM k0 0 0 Qp) G M_X12_whose 6) (v1 : Int) (v2 : Int) (x : Int × Int × Hp)   {P : ((Int × Int × Hp) ⊕ (Int × Hp)) → Prop} (hin : ∀ y : Int × Int × Hp, P (.inl y) → ATk (KM k0 0 0 Qp) FN 0 0 M_X12_whose 22 [some (aR 150), some (aI v1), some (aI v2), some (aI y.1), some (aI y.2.1), none] [] y.2.2) (hout0 : ∀ y : Int × Hp, P (.inr y) → ATk (KM k0 0 0 Qp) FN 0 0 M_X12_whose 41 [some (aR 150), some (aI v1), some (aI v2), some (aI y.1), none, none] [] y.2) (hh : OK (X12_whose_l22 v1 v2 x) P) : ATk (KM k0 0 0 Qp) FN 0 0 M_X12_whose 22 [some (aR 150), some (aI v1), some (aI v2), some (aI x.1), some (aI x.2.1), none] [] x.2.2 := by
  unfold X12_whose_l22 at hh
  refine A_blk hM.1 3 (lv1 := [some (aR 150), some (aI v1), some (aI v2), some (aI x.1), some (aI x.2.1), none]) (s1 := [aI (x.2.2 150 2), aI x.2.1]) (h1 := x.2.2) rfl ?_
  refine A_icmp hM.1 rfl rfl (fun hc => ?_) (fun hc => ?_)
  · replace hh := OK_t hh hc
    refine A_mask [true, true, true, true, false, true] (lv1 := [some (aR 150), some (aI v1), some (aI v2), some (aI x.1), none, none]) rfl ?_
    exact hout0 (x.1, x.2.2) hh
  · replace hh := OK_f hh hc
    refine A_blk hM.1 3 (lv1 := [some (aR 150), some (aI v1), some (aI v2), some (aI x.1), some (aI x.2.1), none]) (s1 := [aI x.2.1, aI v1, aR 150]) (h1 := x.2.2) rfl ?_
    refine A_callV hM rfl rfl (mem_GW 2312 (by decide +kernel) rfl) mi_X12_pointsFor (As := [aI v1, aI x.2.1]) (rest := []) (ct_X12_pointsFor v1 x.2.1 x.2.2 (OK_bind hh)) (by decide) ⟨Nat.zero_le _, Nat.zero_le _⟩ rfl rfl (Nat.le_of_ble_eq_true rfl) (by decide) rfl (by decide) rfl (fun r F' h' hq1 => ?_)
    obtain ⟨rfl, r4, rfl, e9, hh⟩ := hq1
    subst h'
    refine A_blk hM.1 3 (lv1 := [some (aR 150), some (aI v1), some (aI v2), some (aI x.1), some (aI x.2.1), none]) (s1 := [aI x.1, aI v1, aR 150, aI r4.1]) (h1 := r4.2) rfl ?_
    refine A_callV hM rfl rfl (mem_GW 2312 (by decide +kernel) rfl) mi_X12_pointsFor (As := [aI v1, aI x.1]) (rest := [aI r4.1]) (ct_X12_pointsFor v1 x.1 r4.2 (OK_bind hh)) (by decide) ⟨Nat.zero_le _, Nat.zero_le _⟩ rfl rfl (Nat.le_of_ble_eq_true rfl) (by decide) rfl (by decide) rfl (fun r F' h' hq1 => ?_)
    obtain ⟨rfl, r5, rfl, e9, hh⟩ := hq1
    subst h'
    refine A_icmp hM.1 rfl rfl (fun hc => ?_) (fun hc => ?_)
    · replace hh := OK_t hh hc
      refine A_blk hM.1 1 (lv1 := [some (aR 150), some (aI v1), some (aI v2), some (aI x.1), some (aI x.2.1), none]) (s1 := [aI x.1]) (h1 := r5.2) rfl ?_
      refine A_mask [true, true, true, false, true, true] (lv1 := [some (aR 150), some (aI v1), some (aI v2), none, some (aI x.2.1), none]) rfl ?_
      exact c_X12_whose_j38 hM v1 v2 x.2.1 x.1 r5.2 hin hout0 hh
    · replace hh := OK_f hh hc
      refine A_blk hM.1 1 (lv1 := [some (aR 150), some (aI v1), some (aI v2), some (aI x.1), some (aI x.2.1), none]) (s1 := [aI x.2.1]) (h1 := r5.2) rfl ?_
      refine A_go hM.1 rfl rfl ?_
      refine A_mask [true, true, true, false, true, true] (lv1 := [some (aR 150), some (aI v1), some (aI v2), none, some (aI x.2.1), none]) rfl ?_
      exact c_X12_whose_j38 hM v1 v2 x.2.1 x.2.1 r5.2 hin hout0 hh

set_option maxRecDepth 20000 in
set_option maxHeartbeats 4000000 in
theorem c_X12_whose_j78 {k0 : K0} {G : Gx} {Qp : Option AV → Fx → Hp → Prop} (hM : MB (KM k0 0 0 Qp) G M_X12_whose 6) (v1 : Int) (v3 : Int) (v4 : Int) (v5 : Int) (h : Hp)   {P : ((Int × Int × Hp) ⊕ (Int × Hp)) → Prop} (hin : ∀ y : Int × Int × Hp, P (.inl y) → ATk (KM k0 0 0 Qp) FN 0 0 M_X12_whose 57 [some (aR 150), some (aI v1), none, some (aI v3), some (aI y.1), some (aI y.2.1)] [] y.2.2) (hout0 : ∀ y : Int × Hp, P (.inr y) → ATk (KM k0 0 0 Qp) FN 0 0 M_X12_whose 80 [some (aR 150), some (aI v1), none, some (aI v3), some (aI y.1), none] [] y.2) (hh : OK (X12_whose_j78 v1 v3 v4 v5 h) P) : ATk (KM k0 0 0 Qp) FN 0 0 M_X12_whose 78 [some (aR 150), some (aI v1), none, some (aI v3), some (aI v4), some (aI v5)] [] h := by
  unfold X12_whose_j78 at hh
  refine A_blk hM.1 1 (lv1 := [some (aR 150), some (aI v1), none, some (aI v3), some (aI v4), some (aI (v5 + 1))]) (s1 := []) (h1 := h) rfl ?_
  refine A_go hM.1 rfl rfl ?_
  exact hin (v4, v5 + 1, h) hh

set_option maxRecDepth 20000 in
set_option maxHeartbeats 4000000 in
theorem c_X12_whose_j76 {k0 : K0} {G : Gx} {Qp : Option AV → Fx → Hp → Prop} (hM : MB (KM k0 0 0 Qp) G M_X12_whose 6) (v1 : Int) (v3 : Int) (v5 : Int) (h : Hp)   {P : ((Int × Int × Hp) ⊕ (Int × Hp)) → Prop} (hin : ∀ y : Int × Int × Hp, P (.inl y) → ATk (KM k0 0 0 Qp) FN 0 0 M_X12_whose 57 [some (aR 150), some (aI v1), none, some (aI v3), some (aI y.1), some (aI y.2.1)] [] y.2.2) (hout0 : ∀ y : Int × Hp, P (.inr y) → ATk (KM k0 0 0 Qp) FN 0 0 M_X12_whose 80 [some (aR 150), some (aI v1), none, some (aI v3), some (aI y.1), none] [] y.2) (hh : OK (X12_whose_j76 v1 v3 v5 h) P) : ATk (KM k0 0 0 Qp) FN 0 0 M_X12_whose 76 [some (aR 150), some (aI v1), none, some (aI v3), none, some (aI v5)] [] h := by
  unfold X12_whose_j76 at hh
  refine A_blk hM.1 2 (lv1 := [some (aR 150), some (aI v1), none, some (aI v3), some (aI v5), some (aI v5)]) (s1 := []) (h1 := h) rfl ?_
  exact c_X12_whose_j78 hM v1 v3 v5 v5 h hin hout0 hh

set_option maxRecDepth 20000 in
set_option maxHeartbeats 4000000 in
theorem c_X12_whose_l57 {k0 : K0} {G : Gx} {Qp : Option AV → Fx → Hp → Prop} (hM : MB (KM k0 0 0 Qp) G M_X12_whose 6) (v1 : Int) (v3 : Int) (x : Int × Int × Hp)   {P : ((Int × Int × Hp) ⊕ (Int × Hp)) → Prop} (hin : ∀ y : Int × Int × Hp, P (.inl y) → ATk (KM k0 0 0 Qp) FN 0 0 M_X12_whose 57 [some (aR 150), some (aI v1), none, some (aI v3), some (aI y.1), some (aI y.2.1)] [] y.2.2) (hout0 : ∀ y : Int × Hp, P (.inr y) → ATk (KM k0 0 0 Qp) FN 0 0 M_X12_whose 80 [some (aR 150), some (aI v1), none, some (aI v3), some (aI y.1), none] [] y.2) (hh : OK (X12_whose_l57 v1 v3 x) P) : ATk (KM k0 0 0 Qp) FN 0 0 M_X12_whose 57 [some (aR 150), some (aI v1), none, some (aI v3), some (aI x.1), some (aI x.2.1)] [] x.2.2 := by
  unfold X12_whose_l57 at hh
  refine A_blk hM.1 3 (lv1 := [some (aR 150), some (aI v1), none, some (aI v3), some (aI x.1), some (aI x.2.1)]) (s1 := [aI (x.2.2 150 2), aI x.2.1]) (h1 := x.2.2) rfl ?_
  refine A_icmp hM.1 rfl rfl (fun hc => ?_) (fun hc => ?_)
  · replace hh := OK_t hh hc
    refine A_mask [true, true, true, true, true, false] (lv1 := [some (aR 150), some (aI v1), none, some (aI v3), some (aI x.1), none]) rfl ?_
    exact hout0 (x.1, x.2.2) hh
  · replace hh := OK_f hh hc
    refine A_blk hM.1 2 (lv1 := [some (aR 150), some (aI v1), none, some (aI v3), some (aI x.1), some (aI x.2.1)]) (s1 := [aI v3, aI x.2.1]) (h1 := x.2.2) rfl ?_
    refine A_icmp hM.1 rfl rfl (fun hc => ?_) (fun hc => ?_)
    · replace hh := OK_t hh hc
      exact c_X12_whose_j78 hM v1 v3 x.1 x.2.1 x.2.2 hin hout0 hh
    · replace hh := OK_f hh hc
      refine A_blk hM.1 2 (lv1 := [some (aR 150), some (aI v1), none, some (aI v3), some (aI x.1), some (aI x.2.1)]) (s1 := [aI (-1), aI x.1]) (h1 := x.2.2) rfl ?_
      refine A_icmp hM.1 rfl rfl (fun hc => ?_) (fun hc => ?_)
      · replace hh := OK_t hh hc
        refine A_mask [true, true, true, true, false, true] (lv1 := [some (aR 150), some (aI v1), none, some (aI v3), none, some (aI x.2.1)]) rfl ?_
        exact c_X12_whose_j76 hM v1 v3 x.2.1 x.2.2 hin hout0 hh
      · replace hh := OK_f hh hc
        refine A_blk hM.1 3 (lv1 := [some (aR 150), some (aI v1), none, some (aI v3), some (aI x.1), some (aI x.2.1)]) (s1 := [aI x.2.1, aI v1, aR 150]) (h1 := x.2.2) rfl ?_
        refine A_callV hM rfl rfl (mem_GW 2312 (by decide +kernel) rfl) mi_X12_pointsFor (As := [aI v1, aI x.2.1]) (rest := []) (ct_X12_pointsFor v1 x.2.1 x.2.2 (OK_bind hh)) (by decide) ⟨Nat.zero_le _, Nat.zero_le _⟩ rfl rfl (Nat.le_of_ble_eq_true rfl) (by decide) rfl (by decide) rfl (fun r F' h' hq1 => ?_)
        obtain ⟨rfl, r7, rfl, e9, hh⟩ := hq1
        subst h'
        refine A_blk hM.1 3 (lv1 := [some (aR 150), some (aI v1), none, some (aI v3), some (aI x.1), some (aI x.2.1)]) (s1 := [aI x.1, aI v1, aR 150, aI r7.1]) (h1 := r7.2) rfl ?_
        refine A_callV hM rfl rfl (mem_GW 2312 (by decide +kernel) rfl) mi_X12_pointsFor (As := [aI v1, aI x.1]) (rest := [aI r7.1]) (ct_X12_pointsFor v1 x.1 r7.2 (OK_bind hh)) (by decide) ⟨Nat.zero_le _, Nat.zero_le _⟩ rfl rfl (Nat.le_of_ble_eq_true rfl) (by decide) rfl (by decide) rfl (fun r F' h' hq1 => ?_)
        obtain ⟨rfl, r8, rfl, e9, hh⟩ := hq1
        subst h'
        refine A_icmp hM.1 rfl rfl (fun hc => ?_) (fun hc => ?_)
        · replace hh := OK_t hh hc
          exact c_X12_whose_j78 hM v1 v3 x.1 x.2.1 r8.2 hin hout0 hh
        · replace hh := OK_f hh hc
          refine A_mask [true, true, true, true, false, true] (lv1 := [some (aR 150), some (aI v1), none, some (aI v3), none, some (aI x.2.1)]) rfl ?_
          exact c_X12_whose_j76 hM v1 v3 x.2.1 r8.2 hin hout0 hh

set_option maxRecDepth 20000 in
set_option maxHeartbeats 4000000 in
theorem c_X12_whose {k0 : K0} {G : Gx} {Qp : Option AV → Fx → Hp → Prop} (hM : MB (KM k0 0 0 Qp) G M_X12_whose 6) (v1 : Int) (v2 : Int) (h : Hp)   {P : (Int × Hp) → Prop} (hq : ∀ z : Int × Hp, P z → Qp (some (aI z.1)) FN z.2) (hh : OK (X12_whose v1 v2 h) P) : ATk (KM k0 0 0 Qp) FN 0 0 M_X12_whose 0 [some (aR 150), some (aI v1), some (aI v2), none, none, none] [] h := by
  unfold X12_whose at hh
  refine A_blk hM.1 2 (lv1 := [some (aR 150), some (aI v1), some (aI v2), none, none, none]) (s1 := [aI v1, aR 150]) (h1 := h) rfl ?_
  refine A_callV hM rfl rfl (mem_GW 2086 (by decide +kernel) rfl) mi_X12_isBit (As := [aI v1]) (rest := []) (ct_X12_isBit v1 h (OK_bind hh)) (by decide) ⟨Nat.zero_le _, Nat.zero_le _⟩ rfl rfl (Nat.le_of_ble_eq_true rfl) (by decide) rfl (by decide) rfl (fun r F' h' hq1 => ?_)
  obtain ⟨rfl, r1, rfl, e9, hh⟩ := hq1
  subst h'
  refine A_ifc hM.1 rfl rfl (fun hc => ?_) (fun hc => ?_)
  · replace hh := OK_t hh hc
    refine A_blk hM.1 1 (lv1 := [some (aR 150), some (aI v1), some (aI v2), none, none, none]) (s1 := [aI (-1000000)]) (h1 := h) rfl ?_
    exact A_reti hM.1 rfl rfl rfl (hq ((-1000000), h) hh)
  · replace hh := OK_f hh hc
    refine A_blk hM.1 2 (lv1 := [some (aR 150), some (aI v1), some (aI v2), none, none, none]) (s1 := [aI (h 150 2)]) (h1 := h) rfl ?_
    refine A_ifc hM.1 rfl rfl (fun hc => ?_) (fun hc => ?_)
    · replace hh := OK_t hh hc
      refine A_blk hM.1 1 (lv1 := [some (aR 150), some (aI v1), some (aI v2), none, none, none]) (s1 := [aI (-1000000)]) (h1 := h) rfl ?_
      exact A_reti hM.1 rfl rfl rfl (hq ((-1000000), h) hh)
    · replace hh := OK_f hh hc
      refine A_blk hM.1 4 (lv1 := [some (aR 150), some (aI v1), some (aI v2), none, none, none]) (s1 := [aL 2, aL 0, aL (w32 v2)]) (h1 := h) rfl ?_
      refine A_callS hM rfl rfl (mem_GW 1879 (by decide +kernel) rfl) mi_X12_lies ms_X12_lies (As := [aL (w32 v2), aL 0, aL 2]) (rest := []) (ct_X12_lies (w32 v2) 0 2 h (OK_bind hh)) (by decide) ⟨Nat.zero_le _, Nat.zero_le _⟩ rfl rfl (Nat.le_of_ble_eq_true rfl) (fun r F' h' hq1 => ?_)
      obtain ⟨rfl, r2, rfl, e9, hh⟩ := hq1
      subst h'
      refine A_ifc hM.1 rfl rfl (fun hc => ?_) (fun hc => ?_)
      · replace hh := OK_t hh hc
        refine A_blk hM.1 2 (lv1 := [some (aR 150), some (aI v1), some (aI v2), none, none, none]) (s1 := [aI v1, aR 150]) (h1 := h) rfl ?_
        refine A_callV hM rfl rfl (mem_GW 2304 (by decide +kernel) rfl) mi_X12_gathersWords (As := [aI v1]) (rest := []) (ct_X12_gathersWords v1 h (OK_bind hh)) (by decide) ⟨Nat.zero_le _, Nat.zero_le _⟩ rfl rfl (Nat.le_of_ble_eq_true rfl) (by decide) rfl (by decide) rfl (fun r F' h' hq1 => ?_)
        obtain ⟨rfl, rfl, hh⟩ := hq1
        obtain ⟨r3, rfl⟩ : ∃ z, z = h' := ⟨_, rfl⟩
        refine A_blk hM.1 4 (lv1 := [some (aR 150), some (aI v1), some (aI v2), some (aI 0), some (aI 1), none]) (s1 := []) (h1 := r3) rfl ?_
        refine iter_ok (s := (0, 1, r3)) (Gp := fun z => ATk (KM k0 0 0 Qp) FN 0 0 M_X12_whose 22 [some (aR 150), some (aI v1), some (aI v2), some (aI z.1), some (aI z.2.1), none] [] z.2.2) (E := fun z => ATk (KM k0 0 0 Qp) FN 0 0 M_X12_whose 41 [some (aR 150), some (aI v1), some (aI v2), some (aI z.1), none, none] [] z.2) (fun z P1 g1 g2 g3 => c_X12_whose_l22 hM v1 v2 z g2 g3 g1) (OK_bind hh) (fun x6 hh => ?_)
        refine A_blk hM.1 2 (lv1 := [some (aR 150), some (aI v1), some (aI v2), some (aI x6.1), none, none]) (s1 := [aI 2, aI v2]) (h1 := x6.2) rfl ?_
        refine A_icmp hM.1 rfl rfl (fun hc => ?_) (fun hc => ?_)
        · replace hh := OK_t hh hc
          refine A_blk hM.1 4 (lv1 := [some (aR 150), some (aI v1), some (aI v2), some (aI x6.1), some (aI (-1)), some (aI 0)]) (s1 := []) (h1 := x6.2) rfl ?_
          refine A_mask [true, true, false, true, true, true] (lv1 := [some (aR 150), some (aI v1), none, some (aI x6.1), some (aI (-1)), some (aI 0)]) rfl ?_
          refine iter_ok (s := ((-1), 0, x6.2)) (Gp := fun z => ATk (KM k0 0 0 Qp) FN 0 0 M_X12_whose 57 [some (aR 150), some (aI v1), none, some (aI x6.1), some (aI z.1), some (aI z.2.1)] [] z.2.2) (E := fun z => ATk (KM k0 0 0 Qp) FN 0 0 M_X12_whose 80 [some (aR 150), some (aI v1), none, some (aI x6.1), some (aI z.1), none] [] z.2) (fun z P1 g1 g2 g3 => c_X12_whose_l57 hM v1 x6.1 z g2 g3 g1) (OK_bind hh) (fun x9 hh => ?_)
          refine A_blk hM.1 2 (lv1 := [some (aR 150), some (aI v1), none, some (aI x6.1), some (aI x9.1), none]) (s1 := [aI (-1), aI x9.1]) (h1 := x9.2) rfl ?_
          refine A_icmp hM.1 rfl rfl (fun hc => ?_) (fun hc => ?_)
          · replace hh := OK_t hh hc
            refine A_blk hM.1 3 (lv1 := [some (aR 150), some (aI v1), none, some (aI x6.1), some (aI x9.1), none]) (s1 := [aI x6.1, aI v1, aR 150]) (h1 := x9.2) rfl ?_
            refine A_callV hM rfl rfl (mem_GW 2312 (by decide +kernel) rfl) mi_X12_pointsFor (As := [aI v1, aI x6.1]) (rest := []) (ct_X12_pointsFor v1 x6.1 x9.2 (OK_bind hh)) (by decide) ⟨Nat.zero_le _, Nat.zero_le _⟩ rfl rfl (Nat.le_of_ble_eq_true rfl) (by decide) rfl (by decide) rfl (fun r F' h' hq1 => ?_)
            obtain ⟨rfl, r10, rfl, e9, hh⟩ := hq1
            subst h'
            refine A_blk hM.1 3 (lv1 := [some (aR 150), some (aI v1), none, some (aI x6.1), some (aI x9.1), none]) (s1 := [aI x9.1, aI v1, aR 150, aI r10.1]) (h1 := r10.2) rfl ?_
            refine A_callV hM rfl rfl (mem_GW 2312 (by decide +kernel) rfl) mi_X12_pointsFor (As := [aI v1, aI x9.1]) (rest := [aI r10.1]) (ct_X12_pointsFor v1 x9.1 r10.2 (OK_bind hh)) (by decide) ⟨Nat.zero_le _, Nat.zero_le _⟩ rfl rfl (Nat.le_of_ble_eq_true rfl) (by decide) rfl (by decide) rfl (fun r F' h' hq1 => ?_)
            obtain ⟨rfl, r11, rfl, e9, hh⟩ := hq1
            subst h'
            refine A_blk hM.1 1 (lv1 := [some (aR 150), some (aI v1), none, some (aI x6.1), some (aI x9.1), none]) (s1 := [aI (r10.1 - r11.1)]) (h1 := r11.2) rfl ?_
            exact A_reti hM.1 rfl rfl rfl (hq (r10.1 - r11.1, r11.2) hh)
          · replace hh := OK_f hh hc
            refine A_blk hM.1 1 (lv1 := [some (aR 150), some (aI v1), none, some (aI x6.1), some (aI x9.1), none]) (s1 := [aI (-1)]) (h1 := x9.2) rfl ?_
            refine A_go hM.1 rfl rfl ?_
            exact A_reti hM.1 rfl rfl rfl (hq ((-1), x9.2) hh)
        · replace hh := OK_f hh hc
          refine A_blk hM.1 1 (lv1 := [some (aR 150), some (aI v1), some (aI v2), some (aI x6.1), none, none]) (s1 := [aI v2]) (h1 := x6.2) rfl ?_
          refine A_ifc hM.1 rfl rfl (fun hc => ?_) (fun hc => ?_)
          · replace hh := OK_t hh hc
            refine A_blk hM.1 3 (lv1 := [some (aR 150), some (aI v1), some (aI v2), some (aI x6.1), none, none]) (s1 := [aI x6.1, aI v1, aR 150]) (h1 := x6.2) rfl ?_
            refine A_callV hM rfl rfl (mem_GW 2312 (by decide +kernel) rfl) mi_X12_pointsFor (As := [aI v1, aI x6.1]) (rest := []) (ct_X12_pointsFor v1 x6.1 x6.2 (OK_bind hh)) (by decide) ⟨Nat.zero_le _, Nat.zero_le _⟩ rfl rfl (Nat.le_of_ble_eq_true rfl) (by decide) rfl (by decide) rfl (fun r F' h' hq1 => ?_)
            obtain ⟨rfl, r12, rfl, e9, hh⟩ := hq1
            subst h'
            exact A_reti hM.1 rfl rfl rfl (hq (r12.1, r12.2) hh)
          · replace hh := OK_f hh hc
            refine A_blk hM.1 1 (lv1 := [some (aR 150), some (aI v1), some (aI v2), some (aI x6.1), none, none]) (s1 := [aI x6.1]) (h1 := x6.2) rfl ?_
            refine A_go hM.1 rfl rfl ?_
            exact A_reti hM.1 rfl rfl rfl (hq (x6.1, x6.2) hh)
      · replace hh := OK_f hh hc
        refine A_blk hM.1 1 (lv1 := [some (aR 150), some (aI v1), some (aI v2), none, none, none]) (s1 := [aI (-1000000)]) (h1 := h) rfl ?_
        exact A_reti hM.1 rfl rfl rfl (hq ((-1000000), h) hh)

set_option maxRecDepth 20000 in
set_option maxHeartbeats 4000000 in
theorem ct_X12_whose {G : Gx} (v1 : Int) (v2 : Int) (h : Hp)   {P : (Int × Hp) → Prop} (hh : OK (X12_whose v1 v2 h) P) : CT G yX12_whose M_X12_whose 6 0 0 FN h [aR 150, aI v1, aI v2] (fun r F' h' => F' = FN ∧ ∃ z, r = some (aI z.1) ∧ h' = z.2 ∧ P z) :=
  CT.of (by decide +kernel) rfl (Nat.le_of_ble_eq_true rfl) k_X12_whose fun k0 _ _ hM => c_X12_whose hM v1 v2 h (fun z hz => ⟨rfl, z, rfl, rfl, hz⟩) hh

theorem mi_X12_alikeOf : MIv yX12_alikeOf M_X12_alikeOf 2 := ⟨⟨(mem_GW 2324 (by decide +kernel) rfl), (mem_GW 135 (by decide +kernel) rfl), by decide +kernel, by decide +kernel, by decide +kernel, by decide⟩, (mem_GW 2323 (by decide +kernel) rfl), (mem_GW 119 (by decide +kernel) rfl)⟩
set_option maxRecDepth 20000 in
set_option maxHeartbeats 4000000 in
theorem c_X12_alikeOf_l6 {k0 : K0} {G : Gx} {Qp : Option AV → Fx → Hp → Prop} (hM : MB (KM k0 0 0 Qp) G M_X12_alikeOf 2) (v1 : Int) (v2 : Int) (v5 : Int) (h : Hp) (x : Int × Int)   {P : ((Int × Int) ⊕ (Int)) → Prop} (hin : ∀ y : Int × Int, P (.inl y) → ATk (KM k0 0 0 Qp) FN 0 0 M_X12_alikeOf 6 [some (aR 150), some (aI v1), some (aI v2), some (aL y.1), none, some (aL v5), none, some (aI y.2)] [] h) (hout0 : ∀ y : Int, P (.inr y) → ATk (KM k0 0 0 Qp) FN 0 0 M_X12_alikeOf 27 [some (aR 150), some (aI v1), some (aI v2), some (aL y), none, some (aL v5), none, none] [] h) (hh : OK (X12_alikeOf_l6 v1 v2 v5 h x) P) : ATk (KM k0 0 0 Qp) FN 0 0 M_X12_alikeOf 6 [some (aR 150), some (aI v1), some (aI v2), some (aL x.1), none, some (aL v5), none, some (aI x.2)] [] h := by
  unfold X12_alikeOf_l6 at hh
  refine A_blk hM.1 4 (lv1 := [some (aR 150), some (aI v1), some (aI v2), some (aL x.1), none, some (aL v5), none, some (aI x.2)]) (s1 := [aI v1, aR 164, aI x.2]) (h1 := h) rfl ?_
  obtain ⟨g1, hh⟩ := OK_g hh
  refine A_ald hM.1 rfl (Or.inl ⟨rfl, rfl⟩) rfl (by decide) rfl g1 ?_
  refine A_icmp hM.1 rfl rfl (fun hc => ?_) (fun hc => ?_)
  · replace hh := OK_t hh hc
    refine A_mask [true, true, true, true, true, true, true, false] (lv1 := [some (aR 150), some (aI v1), some (aI v2), some (aL x.1), none, some (aL v5), none, none]) rfl ?_
    exact hout0 x.1 hh
  · replace hh := OK_f hh hc
    refine A_blk hM.1 9 (lv1 := [some (aR 150), some (aI v1), some (aI v2), some (aL x.1), none, some (aL v5), none, some (aI x.2)]) (s1 := [aI ((8 * v1) + x.2), aR 165, aL 1, aL x.1]) (h1 := h) rfl ?_
    obtain ⟨g2, hh⟩ := OK_g hh
    refine A_ald hM.1 rfl (Or.inl ⟨rfl, rfl⟩) rfl (by decide) rfl g2 ?_
    refine A_blk hM.1 4 (lv1 := [some (aR 150), some (aI v1), some (aI v2), some (aL (or64 x.1 (shl64 1 (h 165 ((w32 ((8 * v1) + x.2)).toNat))))), none, some (aL v5), none, some (aI (x.2 + 1))]) (s1 := []) (h1 := h) rfl ?_
    refine A_go hM.1 rfl rfl ?_
    exact hin (or64 x.1 (shl64 1 (h 165 ((w32 ((8 * v1) + x.2)).toNat))), x.2 + 1) hh

set_option maxRecDepth 20000 in
set_option maxHeartbeats 4000000 in
theorem c_X12_alikeOf_l29 {k0 : K0} {G : Gx} {Qp : Option AV → Fx → Hp → Prop} (hM : MB (KM k0 0 0 Qp) G M_X12_alikeOf 2) (v1 : Int) (v2 : Int) (v3 : Int) (h : Hp) (x : Int × Int)   {P : ((Int × Int) ⊕ (Int)) → Prop} (hin : ∀ y : Int × Int, P (.inl y) → ATk (KM k0 0 0 Qp) FN 0 0 M_X12_alikeOf 29 [some (aR 150), some (aI v1), some (aI v2), some (aL v3), none, some (aL y.1), none, some (aI y.2)] [] h) (hout0 : ∀ y : Int, P (.inr y) → ATk (KM k0 0 0 Qp) FN 0 0 M_X12_alikeOf 50 [some (aR 150), some (aI v1), some (aI v2), some (aL v3), none, some (aL y), none, none] [] h) (hh : OK (X12_alikeOf_l29 v1 v2 v3 h x) P) : ATk (KM k0 0 0 Qp) FN 0 0 M_X12_alikeOf 29 [some (aR 150), some (aI v1), some (aI v2), some (aL v3), none, some (aL x.1), none, some (aI x.2)] [] h := by
  unfold X12_alikeOf_l29 at hh
  refine A_blk hM.1 4 (lv1 := [some (aR 150), some (aI v1), some (aI v2), some (aL v3), none, some (aL x.1), none, some (aI x.2)]) (s1 := [aI v2, aR 164, aI x.2]) (h1 := h) rfl ?_
  obtain ⟨g4, hh⟩ := OK_g hh
  refine A_ald hM.1 rfl (Or.inl ⟨rfl, rfl⟩) rfl (by decide) rfl g4 ?_
  refine A_icmp hM.1 rfl rfl (fun hc => ?_) (fun hc => ?_)
  · replace hh := OK_t hh hc
    refine A_mask [true, true, true, true, true, true, true, false] (lv1 := [some (aR 150), some (aI v1), some (aI v2), some (aL v3), none, some (aL x.1), none, none]) rfl ?_
    exact hout0 x.1 hh
  · replace hh := OK_f hh hc
    refine A_blk hM.1 9 (lv1 := [some (aR 150), some (aI v1), some (aI v2), some (aL v3), none, some (aL x.1), none, some (aI x.2)]) (s1 := [aI ((8 * v2) + x.2), aR 165, aL 1, aL x.1]) (h1 := h) rfl ?_
    obtain ⟨g5, hh⟩ := OK_g hh
    refine A_ald hM.1 rfl (Or.inl ⟨rfl, rfl⟩) rfl (by decide) rfl g5 ?_
    refine A_blk hM.1 4 (lv1 := [some (aR 150), some (aI v1), some (aI v2), some (aL v3), none, some (aL (or64 x.1 (shl64 1 (h 165 ((w32 ((8 * v2) + x.2)).toNat))))), none, some (aI (x.2 + 1))]) (s1 := []) (h1 := h) rfl ?_
    refine A_go hM.1 rfl rfl ?_
    exact hin (or64 x.1 (shl64 1 (h 165 ((w32 ((8 * v2) + x.2)).toNat))), x.2 + 1) hh

set_option maxRecDepth 20000 in
set_option maxHeartbeats 4000000 in
theorem c_X12_alikeOf_j78 {k0 : K0} {G : Gx} {Qp : Option AV → Fx → Hp → Prop} (hM : MB (KM k0 0 0 Qp) G M_X12_alikeOf 2) (v3 : Int) (v5 : Int) (s0 : Int) (h : Hp)   {P : Int → Prop} (hq : ∀ z : Int, P z → Qp (some (aI z)) FN h) (hh : OK (X12_alikeOf_j78 v3 v5 s0 h) P) : ATk (KM k0 0 0 Qp) FN 0 0 M_X12_alikeOf 78 [none, none, none, some (aL v3), none, some (aL v5), none, none] [aI s0] h := by
  unfold X12_alikeOf_j78 at hh
  refine A_blk hM.1 7 (lv1 := [none, none, none, some (aL v3), none, some (aL v5), none, some (aI s0)]) (s1 := [aL (and64 v3 v5), aI (4 - s0)]) (h1 := h) rfl ?_
  refine A_callS hM rfl rfl (mem_GW 2164 (by decide +kernel) rfl) mi_X12_sizeOf ms_X12_sizeOf (As := [aL (and64 v3 v5)]) (rest := [aI (4 - s0)]) (ct_X12_sizeOf (and64 v3 v5) h (OK_bind hh)) (by decide) ⟨Nat.zero_le _, Nat.zero_le _⟩ rfl rfl (Nat.le_of_ble_eq_true rfl) (fun r F' h' hq1 => ?_)
  obtain ⟨rfl, r11, rfl, e9, hh⟩ := hq1
  subst h'
  refine A_blk hM.1 1 (lv1 := [none, none, none, some (aL v3), none, some (aL v5), none, some (aI s0)]) (s1 := [aI ((4 - s0) + r11)]) (h1 := h) rfl ?_
  exact A_reti hM.1 rfl rfl rfl (hq ((4 - s0) + r11) hh)

set_option maxRecDepth 20000 in
set_option maxHeartbeats 4000000 in
theorem c_X12_alikeOf {k0 : K0} {G : Gx} {Qp : Option AV → Fx → Hp → Prop} (hM : MB (KM k0 0 0 Qp) G M_X12_alikeOf 2) (v1 : Int) (v2 : Int) (h : Hp)   {P : Int → Prop} (hq : ∀ z : Int, P z → Qp (some (aI z)) FN h) (hh : OK (X12_alikeOf v1 v2 h) P) : ATk (KM k0 0 0 Qp) FN 0 0 M_X12_alikeOf 0 [some (aR 150), some (aI v1), some (aI v2), none, none, none, none, none] [] h := by
  unfold X12_alikeOf at hh
  refine A_blk hM.1 6 (lv1 := [some (aR 150), some (aI v1), some (aI v2), some (aL 0), none, some (aL 0), none, some (aI 0)]) (s1 := []) (h1 := h) rfl ?_
  refine iter_ok (s := (0, 0)) (Gp := fun z => ATk (KM k0 0 0 Qp) FN 0 0 M_X12_alikeOf 6 [some (aR 150), some (aI v1), some (aI v2), some (aL z.1), none, some (aL 0), none, some (aI z.2)] [] h) (E := fun z => ATk (KM k0 0 0 Qp) FN 0 0 M_X12_alikeOf 27 [some (aR 150), some (aI v1), some (aI v2), some (aL z), none, some (aL 0), none, none] [] h) (fun z P1 g1 g2 g3 => c_X12_alikeOf_l6 hM v1 v2 0 h z g2 g3 g1) (OK_bind hh) (fun x3 hh => ?_)
  refine A_blk hM.1 2 (lv1 := [some (aR 150), some (aI v1), some (aI v2), some (aL x3), none, some (aL 0), none, some (aI 0)]) (s1 := []) (h1 := h) rfl ?_
  refine iter_ok (s := (0, 0)) (Gp := fun z => ATk (KM k0 0 0 Qp) FN 0 0 M_X12_alikeOf 29 [some (aR 150), some (aI v1), some (aI v2), some (aL x3), none, some (aL z.1), none, some (aI z.2)] [] h) (E := fun z => ATk (KM k0 0 0 Qp) FN 0 0 M_X12_alikeOf 50 [some (aR 150), some (aI v1), some (aI v2), some (aL x3), none, some (aL z), none, none] [] h) (fun z P1 g1 g2 g3 => c_X12_alikeOf_l29 hM v1 v2 x3 h z g2 g3 g1) (OK_bind hh) (fun x6 hh => ?_)
  refine A_blk hM.1 3 (lv1 := [some (aR 150), some (aI v1), some (aI v2), some (aL x3), none, some (aL x6), none, none]) (s1 := [aI v1, aR 163]) (h1 := h) rfl ?_
  obtain ⟨g7, hh⟩ := OK_g hh
  refine A_ald hM.1 rfl (Or.inl ⟨rfl, rfl⟩) rfl (by decide) rfl g7 ?_
  refine A_blk hM.1 3 (lv1 := [some (aR 150), some (aI v1), some (aI v2), some (aL x3), none, some (aL x6), none, none]) (s1 := [aI v2, aR 163, aI (h 163 ((w32 v1).toNat))]) (h1 := h) rfl ?_
  obtain ⟨g8, hh⟩ := OK_g hh
  refine A_ald hM.1 rfl (Or.inl ⟨rfl, rfl⟩) rfl (by decide) rfl g8 ?_
  refine A_icmp hM.1 rfl rfl (fun hc => ?_) (fun hc => ?_)
  · replace hh := OK_t hh hc
    refine A_blk hM.1 3 (lv1 := [some (aR 150), some (aI v1), some (aI v2), some (aL x3), none, some (aL x6), none, none]) (s1 := [aI v1, aR 163]) (h1 := h) rfl ?_
    obtain ⟨g9, hh⟩ := OK_g hh
    refine A_ald hM.1 rfl (Or.inl ⟨rfl, rfl⟩) rfl (by decide) rfl g9 ?_
    refine A_blk hM.1 3 (lv1 := [some (aR 150), some (aI v1), some (aI v2), some (aL x3), none, some (aL x6), none, none]) (s1 := [aI v2, aR 163, aI (h 163 ((w32 v1).toNat))]) (h1 := h) rfl ?_
    obtain ⟨g10, hh⟩ := OK_g hh
    refine A_ald hM.1 rfl (Or.inl ⟨rfl, rfl⟩) rfl (by decide) rfl g10 ?_
    refine A_blk hM.1 1 (lv1 := [some (aR 150), some (aI v1), some (aI v2), some (aL x3), none, some (aL x6), none, none]) (s1 := [aI ((h 163 ((w32 v1).toNat)) - (h 163 ((w32 v2).toNat)))]) (h1 := h) rfl ?_
    refine A_mask [false, false, false, true, true, true, true, true] (lv1 := [none, none, none, some (aL x3), none, some (aL x6), none, none]) rfl ?_
    exact c_X12_alikeOf_j78 hM x3 x6 ((h 163 ((w32 v1).toNat)) - (h 163 ((w32 v2).toNat))) h hq hh
  · replace hh := OK_f hh hc
    refine A_blk hM.1 3 (lv1 := [some (aR 150), some (aI v1), some (aI v2), some (aL x3), none, some (aL x6), none, none]) (s1 := [aI v2, aR 163]) (h1 := h) rfl ?_
    obtain ⟨g12, hh⟩ := OK_g hh
    refine A_ald hM.1 rfl (Or.inl ⟨rfl, rfl⟩) rfl (by decide) rfl g12 ?_
    refine A_blk hM.1 3 (lv1 := [some (aR 150), some (aI v1), some (aI v2), some (aL x3), none, some (aL x6), none, none]) (s1 := [aI v1, aR 163, aI (h 163 ((w32 v2).toNat))]) (h1 := h) rfl ?_
    obtain ⟨g13, hh⟩ := OK_g hh
    refine A_ald hM.1 rfl (Or.inl ⟨rfl, rfl⟩) rfl (by decide) rfl g13 ?_
    refine A_blk hM.1 1 (lv1 := [some (aR 150), some (aI v1), some (aI v2), some (aL x3), none, some (aL x6), none, none]) (s1 := [aI ((h 163 ((w32 v2).toNat)) - (h 163 ((w32 v1).toNat)))]) (h1 := h) rfl ?_
    refine A_go hM.1 rfl rfl ?_
    refine A_mask [false, false, false, true, true, true, true, true] (lv1 := [none, none, none, some (aL x3), none, some (aL x6), none, none]) rfl ?_
    exact c_X12_alikeOf_j78 hM x3 x6 ((h 163 ((w32 v2).toNat)) - (h 163 ((w32 v1).toNat))) h hq hh

set_option maxRecDepth 20000 in
set_option maxHeartbeats 4000000 in
theorem ct_X12_alikeOf {G : Gx} (v1 : Int) (v2 : Int) (h : Hp)   {P : Int → Prop} (hh : OK (X12_alikeOf v1 v2 h) P) : CT G yX12_alikeOf M_X12_alikeOf 2 0 0 FN h [aR 150, aI v1, aI v2] (fun r F' h' => F' = FN ∧ ∃ z, r = some (aI z) ∧ h' = h ∧ P z) :=
  CT.of (by decide +kernel) rfl (Nat.le_of_ble_eq_true rfl) k_X12_alikeOf fun k0 _ _ hM => c_X12_alikeOf hM v1 v2 h (fun z hz => ⟨rfl, z, rfl, rfl, hz⟩) hh

