set_option linter.all false
theorem mi_X12_slipsOf : MIv yX12_slipsOf M_X12_slipsOf 2 := ⟨⟨(mem_GW 2155 (by decide +kernel) rfl), (mem_GW 135 (by decide +kernel) rfl), by decide +kernel, by decide +kernel, by decide +kernel, by decide⟩, (mem_GW 2154 (by decide +kernel) rfl), (mem_GW 98 (by decide +kernel) rfl)⟩
set_option maxRecDepth 20000 in
set_option maxHeartbeats 4000000 in
theorem c_X12_slipsOf_j22 {k0 : K0} {G : Gx} {Qp : Option AV → Fx → Hp → Prop} (hM : MB (KM k0 0 0 Qp) G M_X12_slipsOf 3) (v1 : Int) (v2 : Int) (v5 : Int) (s0 : Int) (s1 : Int) (h : Hp)   {P : ((Int × Int) ⊕ (Int)) → Prop} (hin : ∀ y : Int × Int, P (.inl y) → ATk (KM k0 0 0 Qp) FN 0 0 M_X12_slipsOf 4 [some (aR 150), some (aI v1), some (aI v2), some (aL y.1), none, some (aI y.2)] [] h) (hout0 : ∀ y : Int, P (.inr y) → ATk (KM k0 0 0 Qp) FN 0 0 M_X12_slipsOf 26 [none, none, none, some (aL y), none, none] [] h) (hh : OK (X12_slipsOf_j22 v1 v2 v5 s0 s1 h) P) : ATk (KM k0 0 0 Qp) FN 0 0 M_X12_slipsOf 22 [some (aR 150), some (aI v1), some (aI v2), none, none, some (aI v5)] [aL s1, aL s0] h := by
  unfold X12_slipsOf_j22 at hh
  refine A_blk hM.1 3 (lv1 := [some (aR 150), some (aI v1), some (aI v2), some (aL (or64 s0 s1)), none, some (aI (v5 + 1))]) (s1 := []) (h1 := h) rfl ?_
  refine A_go hM.1 rfl rfl ?_
  exact hin (or64 s0 s1, v5 + 1) hh

set_option maxRecDepth 20000 in
set_option maxHeartbeats 4000000 in
theorem c_X12_slipsOf_l4 {k0 : K0} {G : Gx} {Qp : Option AV → Fx → Hp → Prop} (hM : MB (KM k0 0 0 Qp) G M_X12_slipsOf 3) (v1 : Int) (v2 : Int) (h : Hp) (x : Int × Int)   {P : ((Int × Int) ⊕ (Int)) → Prop} (hin : ∀ y : Int × Int, P (.inl y) → ATk (KM k0 0 0 Qp) FN 0 0 M_X12_slipsOf 4 [some (aR 150), some (aI v1), some (aI v2), some (aL y.1), none, some (aI y.2)] [] h) (hout0 : ∀ y : Int, P (.inr y) → ATk (KM k0 0 0 Qp) FN 0 0 M_X12_slipsOf 26 [none, none, none, some (aL y), none, none] [] h) (hh : OK (X12_slipsOf_l4 v1 v2 h x) P) : ATk (KM k0 0 0 Qp) FN 0 0 M_X12_slipsOf 4 [some (aR 150), some (aI v1), some (aI v2), some (aL x.1), none, some (aI x.2)] [] h := by
  unfold X12_slipsOf_l4 at hh
  refine A_blk hM.1 4 (lv1 := [some (aR 150), some (aI v1), some (aI v2), some (aL x.1), none, some (aI x.2)]) (s1 := [aI v2, aR 156, aI x.2]) (h1 := h) rfl ?_
  obtain ⟨g1, hh⟩ := OK_g hh
  refine A_ald hM.1 rfl (Or.inl ⟨rfl, rfl⟩) rfl (by decide) rfl g1 ?_
  refine A_icmp hM.1 rfl rfl (fun hc => ?_) (fun hc => ?_)
  · replace hh := OK_t hh hc
    refine A_mask [false, false, false, true, true, false] (lv1 := [none, none, none, some (aL x.1), none, none]) rfl ?_
    exact hout0 x.1 hh
  · replace hh := OK_f hh hc
    refine A_blk hM.1 5 (lv1 := [some (aR 150), some (aI v1), some (aI v2), some (aL x.1), none, some (aI x.2)]) (s1 := [aI x.2, aI v2, aI v1, aR 150, aL x.1]) (h1 := h) rfl ?_
    refine A_callV hM rfl rfl (mem_GW 2156 (by decide +kernel) rfl) mi_X12_slipsAt (As := [aI v1, aI v2, aI x.2]) (rest := [aL x.1]) (ct_X12_slipsAt v1 v2 x.2 h (OK_bind hh)) (by decide) ⟨Nat.zero_le _, Nat.zero_le _⟩ rfl rfl (Nat.le_of_ble_eq_true rfl) (by decide) rfl (by decide) rfl (fun r F' h' hq1 => ?_)
    obtain ⟨rfl, r2, rfl, e9, hh⟩ := hq1
    subst h'
    refine A_ifc hM.1 rfl rfl (fun hc => ?_) (fun hc => ?_)
    · replace hh := OK_t hh hc
      refine A_blk hM.1 1 (lv1 := [some (aR 150), some (aI v1), some (aI v2), some (aL x.1), none, some (aI x.2)]) (s1 := [aL 0, aL x.1]) (h1 := h) rfl ?_
      refine A_mask [true, true, true, false, true, true] (lv1 := [some (aR 150), some (aI v1), some (aI v2), none, none, some (aI x.2)]) rfl ?_
      exact c_X12_slipsOf_j22 hM v1 v2 x.2 x.1 0 h hin hout0 hh
    · replace hh := OK_f hh hc
      refine A_blk hM.1 3 (lv1 := [some (aR 150), some (aI v1), some (aI v2), some (aL x.1), none, some (aI x.2)]) (s1 := [aL (shl64 1 x.2), aL x.1]) (h1 := h) rfl ?_
      refine A_go hM.1 rfl rfl ?_
      refine A_mask [true, true, true, false, true, true] (lv1 := [some (aR 150), some (aI v1), some (aI v2), none, none, some (aI x.2)]) rfl ?_
      exact c_X12_slipsOf_j22 hM v1 v2 x.2 x.1 (shl64 1 x.2) h hin hout0 hh

set_option maxRecDepth 20000 in
set_option maxHeartbeats 4000000 in
theorem c_X12_slipsOf {k0 : K0} {G : Gx} {Qp : Option AV → Fx → Hp → Prop} (hM : MB (KM k0 0 0 Qp) G M_X12_slipsOf 3) (v1 : Int) (v2 : Int) (h : Hp)   {P : Int → Prop} (hq : ∀ z : Int, P z → Qp (some (aL z)) FN h) (hh : OK (X12_slipsOf v1 v2 h) P) : ATk (KM k0 0 0 Qp) FN 0 0 M_X12_slipsOf 0 [some (aR 150), some (aI v1), some (aI v2), none, none, none] [] h := by
  unfold X12_slipsOf at hh
  refine A_blk hM.1 4 (lv1 := [some (aR 150), some (aI v1), some (aI v2), some (aL 0), none, some (aI 0)]) (s1 := []) (h1 := h) rfl ?_
  refine iter_ok (s := (0, 0)) (Gp := fun z => ATk (KM k0 0 0 Qp) FN 0 0 M_X12_slipsOf 4 [some (aR 150), some (aI v1), some (aI v2), some (aL z.1), none, some (aI z.2)] [] h) (E := fun z => ATk (KM k0 0 0 Qp) FN 0 0 M_X12_slipsOf 26 [none, none, none, some (aL z), none, none] [] h) (fun z P1 g1 g2 g3 => c_X12_slipsOf_l4 hM v1 v2 h z g2 g3 g1) (OK_bind hh) (fun x3 hh => ?_)
  refine A_blk hM.1 1 (lv1 := [none, none, none, some (aL x3), none, none]) (s1 := [aL x3]) (h1 := h) rfl ?_
  exact A_retl hM.1 rfl rfl rfl (hq x3 hh)

set_option maxRecDepth 20000 in
set_option maxHeartbeats 4000000 in
theorem ct_X12_slipsOf {G : Gx} (v1 : Int) (v2 : Int) (h : Hp)   {P : Int → Prop} (hh : OK (X12_slipsOf v1 v2 h) P) : CT G yX12_slipsOf M_X12_slipsOf 3 0 0 FN h [aR 150, aI v1, aI v2] (fun r F' h' => F' = FN ∧ ∃ z, r = some (aL z) ∧ h' = h ∧ P z) :=
  CT.of (by decide +kernel) rfl (Nat.le_of_ble_eq_true rfl) k_X12_slipsOf fun k0 _ _ hM => c_X12_slipsOf hM v1 v2 h (fun z hz => ⟨rfl, z, rfl, rfl, hz⟩) hh

theorem mi_X12_slips : MIv yX12_slips M_X12_slips 3 := ⟨⟨(mem_GW 2147 (by decide +kernel) rfl), (mem_GW 135 (by decide +kernel) rfl), by decide +kernel, by decide +kernel, by decide +kernel, by decide⟩, (mem_GW 2145 (by decide +kernel) rfl), (mem_GW 2146 (by decide +kernel) rfl)⟩
set_option maxRecDepth 20000 in
set_option maxHeartbeats 4000000 in
theorem c_X12_slips {k0 : K0} {G : Gx} {Qp : Option AV → Fx → Hp → Prop} (hM : MB (KM k0 0 0 Qp) G M_X12_slips 4) (v1 : Int) (v2 : Int) (v3 : Int) (h : Hp)   {P : (Int × Hp) → Prop} (hq : ∀ z : Int × Hp, P z → Qp (some (aL z.1)) FN z.2) (hh : OK (X12_slips v1 v2 v3 h) P) : ATk (KM k0 0 0 Qp) FN 0 0 M_X12_slips 0 [some (aR 150), some (aI v1), some (aI v2), some (aI v3)] [] h := by
  unfold X12_slips at hh
  refine A_blk hM.1 2 (lv1 := [some (aR 150), some (aI v1), some (aI v2), some (aI v3)]) (s1 := [aI v1, aR 150]) (h1 := h) rfl ?_
  refine A_callV hM rfl rfl (mem_GW 1922 (by decide +kernel) rfl) mi_X12_isWriter (As := [aI v1]) (rest := []) (ct_X12_isWriter v1 h (OK_bind hh)) (by decide) ⟨Nat.zero_le _, Nat.zero_le _⟩ rfl rfl (Nat.le_of_ble_eq_true rfl) (by decide) rfl (by decide) rfl (fun r F' h' hq1 => ?_)
  obtain ⟨rfl, r1, rfl, e9, hh⟩ := hq1
  subst h'
  refine A_ifc hM.1 rfl rfl (fun hc => ?_) (fun hc => ?_)
  · replace hh := OK_t hh hc
    refine A_blk hM.1 1 (lv1 := [some (aR 150), some (aI v1), some (aI v2), some (aI v3)]) (s1 := [aL (-1)]) (h1 := h) rfl ?_
    exact A_retl hM.1 rfl rfl rfl (hq ((-1), h) hh)
  · replace hh := OK_f hh hc
    refine A_blk hM.1 2 (lv1 := [some (aR 150), some (aI v1), some (aI v2), some (aI v3)]) (s1 := [aI v2, aR 150]) (h1 := h) rfl ?_
    refine A_callV hM rfl rfl (mem_GW 2050 (by decide +kernel) rfl) mi_X12_isLeft (As := [aI v2]) (rest := []) (ct_X12_isLeft v2 h (OK_bind hh)) (by decide) ⟨Nat.zero_le _, Nat.zero_le _⟩ rfl rfl (Nat.le_of_ble_eq_true rfl) (by decide) rfl (by decide) rfl (fun r F' h' hq1 => ?_)
    obtain ⟨rfl, r2, rfl, e9, hh⟩ := hq1
    subst h'
    refine A_ifc hM.1 rfl rfl (fun hc => ?_) (fun hc => ?_)
    · replace hh := OK_t hh hc
      refine A_blk hM.1 1 (lv1 := [some (aR 150), some (aI v1), some (aI v2), some (aI v3)]) (s1 := [aL (-1)]) (h1 := h) rfl ?_
      exact A_retl hM.1 rfl rfl rfl (hq ((-1), h) hh)
    · replace hh := OK_f hh hc
      refine A_blk hM.1 4 (lv1 := [some (aR 150), some (aI v1), some (aI v2), some (aI v3)]) (s1 := [aL 3, aL 0, aL (w32 v3)]) (h1 := h) rfl ?_
      refine A_callS hM rfl rfl (mem_GW 1879 (by decide +kernel) rfl) mi_X12_lies ms_X12_lies (As := [aL (w32 v3), aL 0, aL 3]) (rest := []) (ct_X12_lies (w32 v3) 0 3 h (OK_bind hh)) (by decide) ⟨Nat.zero_le _, Nat.zero_le _⟩ rfl rfl (Nat.le_of_ble_eq_true rfl) (fun r F' h' hq1 => ?_)
      obtain ⟨rfl, r3, rfl, e9, hh⟩ := hq1
      subst h'
      refine A_ifc hM.1 rfl rfl (fun hc => ?_) (fun hc => ?_)
      · replace hh := OK_t hh hc
        refine A_blk hM.1 2 (lv1 := [some (aR 150), some (aI v1), some (aI v2), some (aI v3)]) (s1 := [aI v2, aR 150]) (h1 := h) rfl ?_
        refine A_callV hM rfl rfl (mem_GW 2148 (by decide +kernel) rfl) mi_X12_lays (As := [aI v2]) (rest := []) (ct_X12_lays v2 h (OK_bind hh)) (by decide) ⟨Nat.zero_le _, Nat.zero_le _⟩ rfl rfl (Nat.le_of_ble_eq_true rfl) (by decide) rfl (by decide) rfl (fun r F' h' hq1 => ?_)
        obtain ⟨rfl, rfl, hh⟩ := hq1
        obtain ⟨r4, rfl⟩ : ∃ z, z = h' := ⟨_, rfl⟩
        refine A_blk hM.1 1 (lv1 := [some (aR 150), some (aI v1), some (aI v2), some (aI v3)]) (s1 := [aI v3]) (h1 := r4) rfl ?_
        refine A_ifc hM.1 rfl rfl (fun hc => ?_) (fun hc => ?_)
        · replace hh := OK_t hh hc
          refine A_blk hM.1 2 (lv1 := [some (aR 150), some (aI v1), some (aI v2), some (aI v3)]) (s1 := [aI 1, aI v3]) (h1 := r4) rfl ?_
          refine A_icmp hM.1 rfl rfl (fun hc => ?_) (fun hc => ?_)
          · replace hh := OK_t hh hc
            refine A_blk hM.1 2 (lv1 := [some (aR 150), some (aI v1), some (aI v2), some (aI v3)]) (s1 := [aI 2, aI v3]) (h1 := r4) rfl ?_
            refine A_icmp hM.1 rfl rfl (fun hc => ?_) (fun hc => ?_)
            · replace hh := OK_t hh hc
              refine A_blk hM.1 3 (lv1 := [some (aR 150), some (aI v1), some (aI v2), some (aI v3)]) (s1 := [aI v2, aI v1, aR 150]) (h1 := r4) rfl ?_
              refine A_callV hM rfl rfl (mem_GW 2152 (by decide +kernel) rfl) mi_X12_slipsOf (As := [aI v1, aI v2]) (rest := []) (ct_X12_slipsOf v1 v2 r4 (OK_bind hh)) (by decide) ⟨Nat.zero_le _, Nat.zero_le _⟩ rfl rfl (Nat.le_of_ble_eq_true rfl) (by decide) rfl (by decide) rfl (fun r F' h' hq1 => ?_)
              obtain ⟨rfl, r5, rfl, e9, hh⟩ := hq1
              subst h'
              exact A_retl hM.1 rfl rfl rfl (hq (r5, r4) hh)
            · replace hh := OK_f hh hc
              refine A_blk hM.1 2 (lv1 := [some (aR 150), some (aI v1), some (aI v2), some (aI v3)]) (s1 := [aI v1, aR 150]) (h1 := r4) rfl ?_
              refine A_callV hM rfl rfl (mem_GW 2167 (by decide +kernel) rfl) mi_X12_placesOf (As := [aI v1]) (rest := []) (ct_X12_placesOf v1 r4 (OK_bind hh)) (by decide) ⟨Nat.zero_le _, Nat.zero_le _⟩ rfl rfl (Nat.le_of_ble_eq_true rfl) (by decide) rfl (by decide) rfl (fun r F' h' hq1 => ?_)
              obtain ⟨rfl, r6, rfl, e9, hh⟩ := hq1
              subst h'
              refine A_go hM.1 rfl rfl ?_
              exact A_retl hM.1 rfl rfl rfl (hq (r6, r4) hh)
          · replace hh := OK_f hh hc
            refine A_blk hM.1 2 (lv1 := [some (aR 150), some (aI v1), some (aI v2), some (aI v3)]) (s1 := [aI v1, aR 150]) (h1 := r4) rfl ?_
            refine A_callV hM rfl rfl (mem_GW 2167 (by decide +kernel) rfl) mi_X12_placesOf (As := [aI v1]) (rest := []) (ct_X12_placesOf v1 r4 (OK_bind hh)) (by decide) ⟨Nat.zero_le _, Nat.zero_le _⟩ rfl rfl (Nat.le_of_ble_eq_true rfl) (by decide) rfl (by decide) rfl (fun r F' h' hq1 => ?_)
            obtain ⟨rfl, r7, rfl, e9, hh⟩ := hq1
            subst h'
            refine A_callS hM rfl rfl (mem_GW 2164 (by decide +kernel) rfl) mi_X12_sizeOf ms_X12_sizeOf (As := [aL r7]) (rest := []) (ct_X12_sizeOf r7 r4 (OK_bind hh)) (by decide) ⟨Nat.zero_le _, Nat.zero_le _⟩ rfl rfl (Nat.le_of_ble_eq_true rfl) (fun r F' h' hq1 => ?_)
            obtain ⟨rfl, r8, rfl, e9, hh⟩ := hq1
            subst h'
            refine A_blk hM.1 1 (lv1 := [some (aR 150), some (aI v1), some (aI v2), some (aI v3)]) (s1 := [aL (w32 r8)]) (h1 := r4) rfl ?_
            refine A_go hM.1 rfl rfl ?_
            exact A_retl hM.1 rfl rfl rfl (hq (w32 r8, r4) hh)
        · replace hh := OK_f hh hc
          refine A_blk hM.1 3 (lv1 := [some (aR 150), some (aI v1), some (aI v2), some (aI v3)]) (s1 := [aI v2, aI v1, aR 150]) (h1 := r4) rfl ?_
          refine A_callV hM rfl rfl (mem_GW 2152 (by decide +kernel) rfl) mi_X12_slipsOf (As := [aI v1, aI v2]) (rest := []) (ct_X12_slipsOf v1 v2 r4 (OK_bind hh)) (by decide) ⟨Nat.zero_le _, Nat.zero_le _⟩ rfl rfl (Nat.le_of_ble_eq_true rfl) (by decide) rfl (by decide) rfl (fun r F' h' hq1 => ?_)
          obtain ⟨rfl, r9, rfl, e9, hh⟩ := hq1
          subst h'
          refine A_callS hM rfl rfl (mem_GW 2164 (by decide +kernel) rfl) mi_X12_sizeOf ms_X12_sizeOf (As := [aL r9]) (rest := []) (ct_X12_sizeOf r9 r4 (OK_bind hh)) (by decide) ⟨Nat.zero_le _, Nat.zero_le _⟩ rfl rfl (Nat.le_of_ble_eq_true rfl) (fun r F' h' hq1 => ?_)
          obtain ⟨rfl, r10, rfl, e9, hh⟩ := hq1
          subst h'
          refine A_blk hM.1 1 (lv1 := [some (aR 150), some (aI v1), some (aI v2), some (aI v3)]) (s1 := [aL (w32 r10)]) (h1 := r4) rfl ?_
          refine A_go hM.1 rfl rfl ?_
          exact A_retl hM.1 rfl rfl rfl (hq (w32 r10, r4) hh)
      · replace hh := OK_f hh hc
        refine A_blk hM.1 1 (lv1 := [some (aR 150), some (aI v1), some (aI v2), some (aI v3)]) (s1 := [aL (-1)]) (h1 := h) rfl ?_
        exact A_retl hM.1 rfl rfl rfl (hq ((-1), h) hh)

set_option maxRecDepth 20000 in
set_option maxHeartbeats 4000000 in
theorem ct_X12_slips {G : Gx} (v1 : Int) (v2 : Int) (v3 : Int) (h : Hp)   {P : (Int × Hp) → Prop} (hh : OK (X12_slips v1 v2 v3 h) P) : CT G yX12_slips M_X12_slips 4 0 0 FN h [aR 150, aI v1, aI v2, aI v3] (fun r F' h' => F' = FN ∧ ∃ z, r = some (aL z.1) ∧ h' = z.2 ∧ P z) :=
  CT.of (by decide +kernel) rfl (Nat.le_of_ble_eq_true rfl) k_X12_slips fun k0 _ _ hM => c_X12_slips hM v1 v2 v3 h (fun z hz => ⟨rfl, z, rfl, rfl, hz⟩) hh

theorem mi_X12_slip : MIv yX12_slip M_X12_slip 3 := ⟨⟨(mem_GW 2174 (by decide +kernel) rfl), (mem_GW 135 (by decide +kernel) rfl), by decide +kernel, by decide +kernel, by decide +kernel, by decide⟩, (mem_GW 2172 (by decide +kernel) rfl), (mem_GW 2173 (by decide +kernel) rfl)⟩
set_option maxRecDepth 20000 in
set_option maxHeartbeats 4000000 in
theorem c_X12_slip {k0 : K0} {G : Gx} {Qp : Option AV → Fx → Hp → Prop} (hM : MB (KM k0 0 0 Qp) G M_X12_slip 4) (v1 : Int) (v2 : Int) (v3 : Int) (h : Hp)   {P : (Int × Hp) → Prop} (hq : ∀ z : Int × Hp, P z → Qp (some (aI z.1)) FN z.2) (hh : OK (X12_slip v1 v2 v3 h) P) : ATk (KM k0 0 0 Qp) FN 0 0 M_X12_slip 0 [some (aR 150), some (aI v1), some (aI v2), some (aI v3)] [] h := by
  unfold X12_slip at hh
  refine A_blk hM.1 2 (lv1 := [some (aR 150), some (aI v1), some (aI v2), some (aI v3)]) (s1 := [aI v1, aR 150]) (h1 := h) rfl ?_
  refine A_callV hM rfl rfl (mem_GW 1922 (by decide +kernel) rfl) mi_X12_isWriter (As := [aI v1]) (rest := []) (ct_X12_isWriter v1 h (OK_bind hh)) (by decide) ⟨Nat.zero_le _, Nat.zero_le _⟩ rfl rfl (Nat.le_of_ble_eq_true rfl) (by decide) rfl (by decide) rfl (fun r F' h' hq1 => ?_)
  obtain ⟨rfl, r1, rfl, e9, hh⟩ := hq1
  subst h'
  refine A_ifc hM.1 rfl rfl (fun hc => ?_) (fun hc => ?_)
  · replace hh := OK_t hh hc
    refine A_blk hM.1 1 (lv1 := [some (aR 150), some (aI v1), some (aI v2), some (aI v3)]) (s1 := [aI (-1)]) (h1 := h) rfl ?_
    exact A_reti hM.1 rfl rfl rfl (hq ((-1), h) hh)
  · replace hh := OK_f hh hc
    refine A_blk hM.1 2 (lv1 := [some (aR 150), some (aI v1), some (aI v2), some (aI v3)]) (s1 := [aI v2, aR 150]) (h1 := h) rfl ?_
    refine A_callV hM rfl rfl (mem_GW 2050 (by decide +kernel) rfl) mi_X12_isLeft (As := [aI v2]) (rest := []) (ct_X12_isLeft v2 h (OK_bind hh)) (by decide) ⟨Nat.zero_le _, Nat.zero_le _⟩ rfl rfl (Nat.le_of_ble_eq_true rfl) (by decide) rfl (by decide) rfl (fun r F' h' hq1 => ?_)
    obtain ⟨rfl, r2, rfl, e9, hh⟩ := hq1
    subst h'
    refine A_ifc hM.1 rfl rfl (fun hc => ?_) (fun hc => ?_)
    · replace hh := OK_t hh hc
      refine A_blk hM.1 1 (lv1 := [some (aR 150), some (aI v1), some (aI v2), some (aI v3)]) (s1 := [aI (-1)]) (h1 := h) rfl ?_
      exact A_reti hM.1 rfl rfl rfl (hq ((-1), h) hh)
    · replace hh := OK_f hh hc
      refine A_blk hM.1 6 (lv1 := [some (aR 150), some (aI v1), some (aI v2), some (aI v3)]) (s1 := [aI v2, aR 156, aL 0, aL (w32 v3)]) (h1 := h) rfl ?_
      obtain ⟨g3, hh⟩ := OK_g hh
      refine A_ald hM.1 rfl (Or.inl ⟨rfl, rfl⟩) rfl (by decide) rfl g3 ?_
      refine A_blk hM.1 3 (lv1 := [some (aR 150), some (aI v1), some (aI v2), some (aI v3)]) (s1 := [aL (w32 ((h 156 ((w32 v2).toNat)) - 1)), aL 0, aL (w32 v3)]) (h1 := h) rfl ?_
      refine A_callS hM rfl rfl (mem_GW 1879 (by decide +kernel) rfl) mi_X12_lies ms_X12_lies (As := [aL (w32 v3), aL 0, aL (w32 ((h 156 ((w32 v2).toNat)) - 1))]) (rest := []) (ct_X12_lies (w32 v3) 0 (w32 ((h 156 ((w32 v2).toNat)) - 1)) h (OK_bind hh)) (by decide) ⟨Nat.zero_le _, Nat.zero_le _⟩ rfl rfl (Nat.le_of_ble_eq_true rfl) (fun r F' h' hq1 => ?_)
      obtain ⟨rfl, r4, rfl, e9, hh⟩ := hq1
      subst h'
      refine A_ifc hM.1 rfl rfl (fun hc => ?_) (fun hc => ?_)
      · replace hh := OK_t hh hc
        refine A_blk hM.1 2 (lv1 := [some (aR 150), some (aI v1), some (aI v2), some (aI v3)]) (s1 := [aI v2, aR 150]) (h1 := h) rfl ?_
        refine A_callV hM rfl rfl (mem_GW 2148 (by decide +kernel) rfl) mi_X12_lays (As := [aI v2]) (rest := []) (ct_X12_lays v2 h (OK_bind hh)) (by decide) ⟨Nat.zero_le _, Nat.zero_le _⟩ rfl rfl (Nat.le_of_ble_eq_true rfl) (by decide) rfl (by decide) rfl (fun r F' h' hq1 => ?_)
        obtain ⟨rfl, rfl, hh⟩ := hq1
        obtain ⟨r5, rfl⟩ : ∃ z, z = h' := ⟨_, rfl⟩
        refine A_blk hM.1 4 (lv1 := [some (aR 150), some (aI v1), some (aI v2), some (aI v3)]) (s1 := [aI v3, aI v2, aI v1, aR 150]) (h1 := r5) rfl ?_
        refine A_callV hM rfl rfl (mem_GW 2156 (by decide +kernel) rfl) mi_X12_slipsAt (As := [aI v1, aI v2, aI v3]) (rest := []) (ct_X12_slipsAt v1 v2 v3 r5 (OK_bind hh)) (by decide) ⟨Nat.zero_le _, Nat.zero_le _⟩ rfl rfl (Nat.le_of_ble_eq_true rfl) (by decide) rfl (by decide) rfl (fun r F' h' hq1 => ?_)
        obtain ⟨rfl, r6, rfl, e9, hh⟩ := hq1
        subst h'
        refine A_ifc hM.1 rfl rfl (fun hc => ?_) (fun hc => ?_)
        · replace hh := OK_t hh hc
          refine A_blk hM.1 1 (lv1 := [some (aR 150), some (aI v1), some (aI v2), some (aI v3)]) (s1 := [aI (-1)]) (h1 := r5) rfl ?_
          exact A_reti hM.1 rfl rfl rfl (hq ((-1), r5) hh)
        · replace hh := OK_f hh hc
          refine A_blk hM.1 7 (lv1 := [some (aR 150), some (aI v1), some (aI v2), some (aI v3)]) (s1 := [aI ((40 * v1) + v3), aR 185]) (h1 := r5) rfl ?_
          obtain ⟨g7, hh⟩ := OK_g hh
          refine A_ald hM.1 rfl (Or.inl ⟨rfl, rfl⟩) rfl (by decide) rfl g7 ?_
          refine A_go hM.1 rfl rfl ?_
          exact A_reti hM.1 rfl rfl rfl (hq (r5 185 ((w32 ((40 * v1) + v3)).toNat), r5) hh)
      · replace hh := OK_f hh hc
        refine A_blk hM.1 1 (lv1 := [some (aR 150), some (aI v1), some (aI v2), some (aI v3)]) (s1 := [aI (-1)]) (h1 := h) rfl ?_
        exact A_reti hM.1 rfl rfl rfl (hq ((-1), h) hh)

set_option maxRecDepth 20000 in
set_option maxHeartbeats 4000000 in
theorem ct_X12_slip {G : Gx} (v1 : Int) (v2 : Int) (v3 : Int) (h : Hp)   {P : (Int × Hp) → Prop} (hh : OK (X12_slip v1 v2 v3 h) P) : CT G yX12_slip M_X12_slip 4 0 0 FN h [aR 150, aI v1, aI v2, aI v3] (fun r F' h' => F' = FN ∧ ∃ z, r = some (aI z.1) ∧ h' = z.2 ∧ P z) :=
  CT.of (by decide +kernel) rfl (Nat.le_of_ble_eq_true rfl) k_X12_slip fun k0 _ _ hM => c_X12_slip hM v1 v2 v3 h (fun z hz => ⟨rfl, z, rfl, rfl, hz⟩) hh

theorem mi_X12_choices : MIs yX12_choices M_X12_choices 2 := ⟨(mem_GW 2186 (by decide +kernel) rfl), (mem_GW 135 (by decide +kernel) rfl), by decide +kernel, by decide +kernel, by decide +kernel, by decide⟩
theorem ms_X12_choices : .static yX12_choices ∈ GW := (mem_GW 2185 (by decide +kernel) rfl)
set_option maxRecDepth 20000 in
set_option maxHeartbeats 4000000 in
theorem c_X12_choices_l11 {k0 : K0} {G : Gx} {Qp : Option AV → Fx → Hp → Prop} (hM : MB (KM k0 0 0 Qp) G M_X12_choices 1) (v0 : Int) (v1 : Int) (x : Int × Int) (h : Hp)  {P : ((Int × Int) ⊕ (Int)) → Prop} (hin : ∀ y : Int × Int, P (.inl y) → ATk (KM k0 0 0 Qp) FN 0 0 M_X12_choices 11 [some (aI v0), some (aI v1), some (aL y.1), none, some (aI y.2)] [] h) (hout0 : ∀ y : Int, P (.inr y) → ATk (KM k0 0 0 Qp) FN 0 0 M_X12_choices 28 [none, none, some (aL y), none, none] [] h) (hh : OK (X12_choices_l11 v0 v1 x) P) : ATk (KM k0 0 0 Qp) FN 0 0 M_X12_choices 11 [some (aI v0), some (aI v1), some (aL x.1), none, some (aI x.2)] [] h := by
  unfold X12_choices_l11 at hh
  refine A_blk hM.1 2 (lv1 := [some (aI v0), some (aI v1), some (aL x.1), none, some (aI x.2)]) (s1 := [aI v1, aI x.2]) (h1 := h) rfl ?_
  refine A_icmp hM.1 rfl rfl (fun hc => ?_) (fun hc => ?_)
  · replace hh := OK_t hh hc
    refine A_mask [false, false, true, true, false] (lv1 := [none, none, some (aL x.1), none, none]) rfl ?_
    exact hout0 x.1 hh
  · replace hh := OK_f hh hc
    refine A_blk hM.1 10 (lv1 := [some (aI v0), some (aI v1), some (aL x.1), none, some (aI x.2)]) (s1 := [aL (w32 x.2), aL (x.1 * (w32 ((v0 - v1) + x.2)))]) (h1 := h) rfl ?_
    obtain ⟨g1, hh⟩ := OK_g hh
    refine A_ldiv hM.1 rfl rfl g1 ?_
    refine A_blk hM.1 2 (lv1 := [some (aI v0), some (aI v1), some (aL (div64 (x.1 * (w32 ((v0 - v1) + x.2))) (w32 x.2))), none, some (aI (x.2 + 1))]) (s1 := []) (h1 := h) rfl ?_
    refine A_go hM.1 rfl rfl ?_
    exact hin (div64 (x.1 * (w32 ((v0 - v1) + x.2))) (w32 x.2), x.2 + 1) hh

set_option maxRecDepth 20000 in
set_option maxHeartbeats 4000000 in
theorem c_X12_choices {k0 : K0} {G : Gx} {Qp : Option AV → Fx → Hp → Prop} (hM : MB (KM k0 0 0 Qp) G M_X12_choices 1) (v0 : Int) (v1 : Int) (h : Hp)  {P : Int → Prop} (hq : ∀ z : Int, P z → Qp (some (aL z)) FN h) (hh : OK (X12_choices v0 v1) P) : ATk (KM k0 0 0 Qp) FN 0 0 M_X12_choices 0 [some (aI v0), some (aI v1), none, none, none] [] h := by
  unfold X12_choices at hh
  refine A_blk hM.1 1 (lv1 := [some (aI v0), some (aI v1), none, none, none]) (s1 := [aI v1]) (h1 := h) rfl ?_
  refine A_ifc hM.1 rfl rfl (fun hc => ?_) (fun hc => ?_)
  · replace hh := OK_t hh hc
    refine A_blk hM.1 1 (lv1 := [some (aI v0), some (aI v1), none, none, none]) (s1 := [aL 0]) (h1 := h) rfl ?_
    exact A_retl hM.1 rfl rfl rfl (hq 0 hh)
  · replace hh := OK_f hh hc
    refine A_blk hM.1 2 (lv1 := [some (aI v0), some (aI v1), none, none, none]) (s1 := [aI v0, aI v1]) (h1 := h) rfl ?_
    refine A_icmp hM.1 rfl rfl (fun hc => ?_) (fun hc => ?_)
    · replace hh := OK_t hh hc
      refine A_blk hM.1 4 (lv1 := [some (aI v0), some (aI v1), some (aL 1), none, some (aI 1)]) (s1 := []) (h1 := h) rfl ?_
      refine iter_ok (s := (1, 1)) (Gp := fun z => ATk (KM k0 0 0 Qp) FN 0 0 M_X12_choices 11 [some (aI v0), some (aI v1), some (aL z.1), none, some (aI z.2)] [] h) (E := fun z => ATk (KM k0 0 0 Qp) FN 0 0 M_X12_choices 28 [none, none, some (aL z), none, none] [] h) (fun z P1 g1 g2 g3 => c_X12_choices_l11 hM v0 v1 z h g2 g3 g1) (OK_bind hh) (fun x2 hh => ?_)
      refine A_blk hM.1 1 (lv1 := [none, none, some (aL x2), none, none]) (s1 := [aL x2]) (h1 := h) rfl ?_
      exact A_retl hM.1 rfl rfl rfl (hq x2 hh)
    · replace hh := OK_f hh hc
      refine A_blk hM.1 1 (lv1 := [some (aI v0), some (aI v1), none, none, none]) (s1 := [aL 0]) (h1 := h) rfl ?_
      exact A_retl hM.1 rfl rfl rfl (hq 0 hh)

set_option maxRecDepth 20000 in
set_option maxHeartbeats 4000000 in
theorem ct_X12_choices {G : Gx} (v0 : Int) (v1 : Int) (h : Hp)  {P : Int → Prop} (hh : OK (X12_choices v0 v1) P) : CT G yX12_choices M_X12_choices 1 0 0 FN h [aI v0, aI v1] (fun r F' h' => F' = FN ∧ ∃ z, r = some (aL z) ∧ h' = h ∧ P z) :=
  CT.of (by decide +kernel) rfl (Nat.le_of_ble_eq_true rfl) k_X12_choices fun k0 _ _ hM => c_X12_choices hM v0 v1 h (fun z hz => ⟨rfl, z, rfl, rfl, hz⟩) hh

theorem mi_X12_divisor : MIs yX12_divisor M_X12_divisor 2 := ⟨(mem_GW 2189 (by decide +kernel) rfl), (mem_GW 135 (by decide +kernel) rfl), by decide +kernel, by decide +kernel, by decide +kernel, by decide⟩
theorem ms_X12_divisor : .static yX12_divisor ∈ GW := (mem_GW 2188 (by decide +kernel) rfl)
set_option maxRecDepth 20000 in
set_option maxHeartbeats 4000000 in
theorem c_X12_divisor_l4 {k0 : K0} {G : Gx} {Qp : Option AV → Fx → Hp → Prop} (hM : MB (KM k0 0 0 Qp) G M_X12_divisor 1) (x : Int × Int) (h : Hp)  {P : ((Int × Int) ⊕ (Int)) → Prop} (hin : ∀ y : Int × Int, P (.inl y) → ATk (KM k0 0 0 Qp) FN 0 0 M_X12_divisor 4 [none, none, none, none, some (aL y.1), none, some (aL y.2), none, none, none] [] h) (hout0 : ∀ y : Int, P (.inr y) → ATk (KM k0 0 0 Qp) FN 0 0 M_X12_divisor 17 [none, none, none, none, some (aL y), none, none, none, none, none] [] h) (hh : OK (X12_divisor_l4 x) P) : ATk (KM k0 0 0 Qp) FN 0 0 M_X12_divisor 4 [none, none, none, none, some (aL x.1), none, some (aL x.2), none, none, none] [] h := by
  unfold X12_divisor_l4 at hh
  refine A_blk hM.1 3 (lv1 := [none, none, none, none, some (aL x.1), none, some (aL x.2), none, none, none]) (s1 := [aI (cmp64 x.2 0)]) (h1 := h) rfl ?_
  refine A_ifc hM.1 rfl rfl (fun hc => ?_) (fun hc => ?_)
  · replace hh := OK_t hh hc
    refine A_mask [true, true, true, true, true, true, false, true, true, true] (lv1 := [none, none, none, none, some (aL x.1), none, none, none, none, none]) rfl ?_
    exact hout0 x.1 hh
  · replace hh := OK_f hh hc
    refine A_blk hM.1 2 (lv1 := [none, none, none, none, some (aL x.1), none, some (aL x.2), none, none, none]) (s1 := [aL x.2, aL x.1]) (h1 := h) rfl ?_
    obtain ⟨g1, hh⟩ := OK_g hh
    refine A_lrem hM.1 rfl rfl g1 ?_
    refine A_blk hM.1 5 (lv1 := [none, none, none, none, some (aL x.2), none, some (aL (rem64 x.1 x.2)), none, some (aL (rem64 x.1 x.2)), none]) (s1 := []) (h1 := h) rfl ?_
    refine A_go hM.1 rfl rfl ?_
    refine A_mask [true, true, true, true, true, true, true, true, false, true] (lv1 := [none, none, none, none, some (aL x.2), none, some (aL (rem64 x.1 x.2)), none, none, none]) rfl ?_
    exact hin (x.2, rem64 x.1 x.2) hh

set_option maxRecDepth 20000 in
set_option maxHeartbeats 4000000 in
theorem c_X12_divisor {k0 : K0} {G : Gx} {Qp : Option AV → Fx → Hp → Prop} (hM : MB (KM k0 0 0 Qp) G M_X12_divisor 1) (v0 : Int) (v2 : Int) (h : Hp)  {P : Int → Prop} (hq : ∀ z : Int, P z → Qp (some (aL z)) FN h) (hh : OK (X12_divisor v0 v2) P) : ATk (KM k0 0 0 Qp) FN 0 0 M_X12_divisor 0 [some (aL v0), none, some (aL v2), none, none, none, none, none, none, none] [] h := by
  unfold X12_divisor at hh
  refine A_blk hM.1 4 (lv1 := [some (aL v0), none, some (aL v2), none, some (aL v0), none, some (aL v2), none, none, none]) (s1 := []) (h1 := h) rfl ?_
  refine A_mask [false, true, false, true, true, true, true, true, true, true] (lv1 := [none, none, none, none, some (aL v0), none, some (aL v2), none, none, none]) rfl ?_
  refine iter_ok (s := (v0, v2)) (Gp := fun z => ATk (KM k0 0 0 Qp) FN 0 0 M_X12_divisor 4 [none, none, none, none, some (aL z.1), none, some (aL z.2), none, none, none] [] h) (E := fun z => ATk (KM k0 0 0 Qp) FN 0 0 M_X12_divisor 17 [none, none, none, none, some (aL z), none, none, none, none, none] [] h) (fun z P1 g1 g2 g3 => c_X12_divisor_l4 hM  z h g2 g3 g1) (OK_bind hh) (fun x2 hh => ?_)
  refine A_blk hM.1 1 (lv1 := [none, none, none, none, some (aL x2), none, none, none, none, none]) (s1 := [aL x2]) (h1 := h) rfl ?_
  exact A_retl hM.1 rfl rfl rfl (hq x2 hh)

set_option maxRecDepth 20000 in
set_option maxHeartbeats 4000000 in
theorem ct_X12_divisor {G : Gx} (v0 : Int) (v2 : Int) (h : Hp)  {P : Int → Prop} (hh : OK (X12_divisor v0 v2) P) : CT G yX12_divisor M_X12_divisor 1 0 0 FN h [aL v0, aL v2] (fun r F' h' => F' = FN ∧ ∃ z, r = some (aL z) ∧ h' = h ∧ P z) :=
  CT.of (by decide +kernel) rfl (Nat.le_of_ble_eq_true rfl) k_X12_divisor fun k0 _ _ hM => c_X12_divisor hM v0 v2 h (fun z hz => ⟨rfl, z, rfl, rfl, hz⟩) hh

theorem mi_X12_shares : MIv yX12_shares M_X12_shares 3 := ⟨⟨(mem_GW 2183 (by decide +kernel) rfl), (mem_GW 135 (by decide +kernel) rfl), by decide +kernel, by decide +kernel, by decide +kernel, by decide⟩, (mem_GW 2182 (by decide +kernel) rfl), (mem_GW 102 (by decide +kernel) rfl)⟩
set_option maxRecDepth 20000 in
set_option maxHeartbeats 4000000 in
theorem c_X12_shares_j96 {k0 : K0} {G : Gx} {Qp : Option AV → Fx → Hp → Prop} (hM : MB (KM k0 0 0 Qp) G M_X12_shares 3) (v1 : Int) (v2 : Int) (v3 : Int) (v4 : Int) (h : Hp)   {P : ((Int × Hp) ⊕ (Hp)) → Prop} (hin : ∀ y : Int × Hp, P (.inl y) → ATk (KM k0 0 0 Qp) FN 0 0 M_X12_shares 14 [some (aR 150), some (aI v1), some (aI v2), some (aI v3), some (aI y.1)] [] y.2) (hout0 : ∀ y : Hp, P (.inr y) → ATk (KM k0 0 0 Qp) FN 0 0 M_X12_shares 98 [some (aR 150), none, none, none, none] [] y) (hh : OK (X12_shares_j96 v1 v2 v3 v4 h) P) : ATk (KM k0 0 0 Qp) FN 0 0 M_X12_shares 96 [some (aR 150), some (aI v1), some (aI v2), some (aI v3), some (aI v4)] [] h := by
  unfold X12_shares_j96 at hh
  refine A_blk hM.1 1 (lv1 := [some (aR 150), some (aI v1), some (aI v2), some (aI v3), some (aI (v4 + 1))]) (s1 := []) (h1 := h) rfl ?_
  refine A_go hM.1 rfl rfl ?_
  exact hin (v4 + 1, h) hh

set_option maxRecDepth 20000 in
set_option maxHeartbeats 4000000 in
theorem c_X12_shares_j94 {k0 : K0} {G : Gx} {Qp : Option AV → Fx → Hp → Prop} (hM : MB (KM k0 0 0 Qp) G M_X12_shares 3) (v1 : Int) (v2 : Int) (v3 : Int) (v4 : Int) (s1 : Int) (s2 : Int) (h : Hp)   {P : ((Int × Hp) ⊕ (Hp)) → Prop} (hin : ∀ y : Int × Hp, P (.inl y) → ATk (KM k0 0 0 Qp) FN 0 0 M_X12_shares 14 [some (aR 150), some (aI v1), some (aI v2), some (aI v3), some (aI y.1)] [] y.2) (hout0 : ∀ y : Hp, P (.inr y) → ATk (KM k0 0 0 Qp) FN 0 0 M_X12_shares 98 [some (aR 150), none, none, none, none] [] y) (hh : OK (X12_shares_j94 v1 v2 v3 v4 s1 s2 h) P) : ATk (KM k0 0 0 Qp) FN 0 0 M_X12_shares 94 [some (aR 150), some (aI v1), some (aI v2), some (aI v3), some (aI v4)] [aI s2, aI s1, aR 150] h := by
  unfold X12_shares_j94 at hh
  refine A_blk hM.1 2 (lv1 := [some (aR 150), some (aI v1), some (aI v2), some (aI v3), some (aI v4)]) (s1 := []) (h1 := setH h 150 70 (s1 + s2)) rfl ?_
  exact c_X12_shares_j96 hM v1 v2 v3 v4 (setH h 150 70 (s1 + s2)) hin hout0 hh

set_option maxRecDepth 20000 in
set_option maxHeartbeats 4000000 in
theorem c_X12_shares_j93 {k0 : K0} {G : Gx} {Qp : Option AV → Fx → Hp → Prop} (hM : MB (KM k0 0 0 Qp) G M_X12_shares 3) (v1 : Int) (v2 : Int) (v3 : Int) (v4 : Int) (s1 : Int) (h : Hp)   {P : ((Int × Hp) ⊕ (Hp)) → Prop} (hin : ∀ y : Int × Hp, P (.inl y) → ATk (KM k0 0 0 Qp) FN 0 0 M_X12_shares 14 [some (aR 150), some (aI v1), some (aI v2), some (aI v3), some (aI y.1)] [] y.2) (hout0 : ∀ y : Hp, P (.inr y) → ATk (KM k0 0 0 Qp) FN 0 0 M_X12_shares 98 [some (aR 150), none, none, none, none] [] y) (hh : OK (X12_shares_j93 v1 v2 v3 v4 s1 h) P) : ATk (KM k0 0 0 Qp) FN 0 0 M_X12_shares 93 [some (aR 150), some (aI v1), some (aI v2), some (aI v3), some (aI v4)] [aI s1, aR 150] h := by
  unfold X12_shares_j93 at hh
  refine A_blk hM.1 1 (lv1 := [some (aR 150), some (aI v1), some (aI v2), some (aI v3), some (aI v4)]) (s1 := [aI 0, aI s1, aR 150]) (h1 := h) rfl ?_
  exact c_X12_shares_j94 hM v1 v2 v3 v4 s1 0 h hin hout0 hh

set_option maxRecDepth 20000 in
set_option maxHeartbeats 4000000 in
theorem c_X12_shares_j63 {k0 : K0} {G : Gx} {Qp : Option AV → Fx → Hp → Prop} (hM : MB (KM k0 0 0 Qp) G M_X12_shares 3) (v1 : Int) (v2 : Int) (v3 : Int) (v4 : Int) (s1 : Int) (s2 : Int) (h : Hp)   {P : ((Int × Hp) ⊕ (Hp)) → Prop} (hin : ∀ y : Int × Hp, P (.inl y) → ATk (KM k0 0 0 Qp) FN 0 0 M_X12_shares 14 [some (aR 150), some (aI v1), some (aI v2), some (aI v3), some (aI y.1)] [] y.2) (hout0 : ∀ y : Hp, P (.inr y) → ATk (KM k0 0 0 Qp) FN 0 0 M_X12_shares 98 [some (aR 150), none, none, none, none] [] y) (hh : OK (X12_shares_j63 v1 v2 v3 v4 s1 s2 h) P) : ATk (KM k0 0 0 Qp) FN 0 0 M_X12_shares 63 [some (aR 150), some (aI v1), some (aI v2), some (aI v3), some (aI v4)] [aI s2, aI s1, aR 150] h := by
  unfold X12_shares_j63 at hh
  refine A_blk hM.1 9 (lv1 := [some (aR 150), some (aI v1), some (aI v2), some (aI v3), some (aI v4)]) (s1 := [aI v4, aI v3, aI v1, aR 150, aI (h 150 70), aR 150]) (h1 := setH h 150 69 (s1 + s2)) rfl ?_
  refine A_callV hM rfl rfl (mem_GW 2156 (by decide +kernel) rfl) mi_X12_slipsAt (As := [aI v1, aI v3, aI v4]) (rest := [aI (h 150 70), aR 150]) (ct_X12_slipsAt v1 v3 v4 (setH h 150 69 (s1 + s2)) (OK_bind hh)) (by decide) ⟨Nat.zero_le _, Nat.zero_le _⟩ rfl rfl (Nat.le_of_ble_eq_true rfl) (by decide) rfl (by decide) rfl (fun r F' h' hq1 => ?_)
  obtain ⟨rfl, r6, rfl, e9, hh⟩ := hq1
  subst h'
  refine A_ifc hM.1 rfl rfl (fun hc => ?_) (fun hc => ?_)
  · replace hh := OK_t hh hc
    exact c_X12_shares_j93 hM v1 v2 v3 v4 (h 150 70) (setH h 150 69 (s1 + s2)) hin hout0 hh
  · replace hh := OK_f hh hc
    refine A_blk hM.1 7 (lv1 := [some (aR 150), some (aI v1), some (aI v2), some (aI v3), some (aI v4)]) (s1 := [aI ((40 * v1) + v4), aR 185, aI (h 150 70), aR 150]) (h1 := setH h 150 69 (s1 + s2)) rfl ?_
    obtain ⟨g7, hh⟩ := OK_g hh
    refine A_ald hM.1 rfl (Or.inl ⟨rfl, rfl⟩) rfl (by decide) rfl g7 ?_
    refine A_blk hM.1 7 (lv1 := [some (aR 150), some (aI v1), some (aI v2), some (aI v3), some (aI v4)]) (s1 := [aI ((40 * v2) + v4), aR 185, aI (h 185 ((w32 ((40 * v1) + v4)).toNat)), aI (h 150 70), aR 150]) (h1 := setH h 150 69 (s1 + s2)) rfl ?_
    obtain ⟨g8, hh⟩ := OK_g hh
    refine A_ald hM.1 rfl (Or.inl ⟨rfl, rfl⟩) rfl (by decide) rfl g8 ?_
    refine A_icmp hM.1 rfl rfl (fun hc => ?_) (fun hc => ?_)
    · replace hh := OK_t hh hc
      exact c_X12_shares_j93 hM v1 v2 v3 v4 (h 150 70) (setH h 150 69 (s1 + s2)) hin hout0 hh
    · replace hh := OK_f hh hc
      refine A_blk hM.1 1 (lv1 := [some (aR 150), some (aI v1), some (aI v2), some (aI v3), some (aI v4)]) (s1 := [aI 1, aI (h 150 70), aR 150]) (h1 := setH h 150 69 (s1 + s2)) rfl ?_
      refine A_go hM.1 rfl rfl ?_
      exact c_X12_shares_j94 hM v1 v2 v3 v4 (h 150 70) 1 (setH h 150 69 (s1 + s2)) hin hout0 hh

set_option maxRecDepth 20000 in
set_option maxHeartbeats 4000000 in
theorem c_X12_shares_j49 {k0 : K0} {G : Gx} {Qp : Option AV → Fx → Hp → Prop} (hM : MB (KM k0 0 0 Qp) G M_X12_shares 3) (v1 : Int) (v2 : Int) (v3 : Int) (v4 : Int) (s1 : Int) (s2 : Int) (h : Hp)   {P : ((Int × Hp) ⊕ (Hp)) → Prop} (hin : ∀ y : Int × Hp, P (.inl y) → ATk (KM k0 0 0 Qp) FN 0 0 M_X12_shares 14 [some (aR 150), some (aI v1), some (aI v2), some (aI v3), some (aI y.1)] [] y.2) (hout0 : ∀ y : Hp, P (.inr y) → ATk (KM k0 0 0 Qp) FN 0 0 M_X12_shares 98 [some (aR 150), none, none, none, none] [] y) (hh : OK (X12_shares_j49 v1 v2 v3 v4 s1 s2 h) P) : ATk (KM k0 0 0 Qp) FN 0 0 M_X12_shares 49 [some (aR 150), some (aI v1), some (aI v2), some (aI v3), some (aI v4)] [aI s2, aI s1, aR 150] h := by
  unfold X12_shares_j49 at hh
  refine A_blk hM.1 9 (lv1 := [some (aR 150), some (aI v1), some (aI v2), some (aI v3), some (aI v4)]) (s1 := [aI v4, aI v3, aI v2, aR 150, aI (h 150 69), aR 150]) (h1 := setH h 150 68 (s1 + s2)) rfl ?_
  refine A_callV hM rfl rfl (mem_GW 2156 (by decide +kernel) rfl) mi_X12_slipsAt (As := [aI v2, aI v3, aI v4]) (rest := [aI (h 150 69), aR 150]) (ct_X12_slipsAt v2 v3 v4 (setH h 150 68 (s1 + s2)) (OK_bind hh)) (by decide) ⟨Nat.zero_le _, Nat.zero_le _⟩ rfl rfl (Nat.le_of_ble_eq_true rfl) (by decide) rfl (by decide) rfl (fun r F' h' hq1 => ?_)
  obtain ⟨rfl, r5, rfl, e9, hh⟩ := hq1
  subst h'
  refine A_ifc hM.1 rfl rfl (fun hc => ?_) (fun hc => ?_)
  · replace hh := OK_t hh hc
    refine A_blk hM.1 1 (lv1 := [some (aR 150), some (aI v1), some (aI v2), some (aI v3), some (aI v4)]) (s1 := [aI 0, aI (h 150 69), aR 150]) (h1 := setH h 150 68 (s1 + s2)) rfl ?_
    exact c_X12_shares_j63 hM v1 v2 v3 v4 (h 150 69) 0 (setH h 150 68 (s1 + s2)) hin hout0 hh
  · replace hh := OK_f hh hc
    refine A_blk hM.1 1 (lv1 := [some (aR 150), some (aI v1), some (aI v2), some (aI v3), some (aI v4)]) (s1 := [aI 1, aI (h 150 69), aR 150]) (h1 := setH h 150 68 (s1 + s2)) rfl ?_
    refine A_go hM.1 rfl rfl ?_
    exact c_X12_shares_j63 hM v1 v2 v3 v4 (h 150 69) 1 (setH h 150 68 (s1 + s2)) hin hout0 hh

set_option maxRecDepth 20000 in
set_option maxHeartbeats 4000000 in
theorem c_X12_shares_l14 {k0 : K0} {G : Gx} {Qp : Option AV → Fx → Hp → Prop} (hM : MB (KM k0 0 0 Qp) G M_X12_shares 3) (v1 : Int) (v2 : Int) (v3 : Int) (x : Int × Hp)   {P : ((Int × Hp) ⊕ (Hp)) → Prop} (hin : ∀ y : Int × Hp, P (.inl y) → ATk (KM k0 0 0 Qp) FN 0 0 M_X12_shares 14 [some (aR 150), some (aI v1), some (aI v2), some (aI v3), some (aI y.1)] [] y.2) (hout0 : ∀ y : Hp, P (.inr y) → ATk (KM k0 0 0 Qp) FN 0 0 M_X12_shares 98 [some (aR 150), none, none, none, none] [] y) (hh : OK (X12_shares_l14 v1 v2 v3 x) P) : ATk (KM k0 0 0 Qp) FN 0 0 M_X12_shares 14 [some (aR 150), some (aI v1), some (aI v2), some (aI v3), some (aI x.1)] [] x.2 := by
  unfold X12_shares_l14 at hh
  refine A_blk hM.1 4 (lv1 := [some (aR 150), some (aI v1), some (aI v2), some (aI v3), some (aI x.1)]) (s1 := [aI v3, aR 156, aI x.1]) (h1 := x.2) rfl ?_
  obtain ⟨g1, hh⟩ := OK_g hh
  refine A_ald hM.1 rfl (Or.inl ⟨rfl, rfl⟩) rfl (by decide) rfl g1 ?_
  refine A_icmp hM.1 rfl rfl (fun hc => ?_) (fun hc => ?_)
  · replace hh := OK_t hh hc
    refine A_mask [true, false, false, false, false] (lv1 := [some (aR 150), none, none, none, none]) rfl ?_
    exact hout0 x.2 hh
  · replace hh := OK_f hh hc
    refine A_blk hM.1 3 (lv1 := [some (aR 150), some (aI v1), some (aI v2), some (aI v3), some (aI x.1)]) (s1 := [aI x.1, aI v1, aR 150]) (h1 := x.2) rfl ?_
    refine A_callV hM rfl rfl (mem_GW 2160 (by decide +kernel) rfl) mi_X12_hasPlace (As := [aI v1, aI x.1]) (rest := []) (ct_X12_hasPlace v1 x.1 x.2 (OK_bind hh)) (by decide) ⟨Nat.zero_le _, Nat.zero_le _⟩ rfl rfl (Nat.le_of_ble_eq_true rfl) (by decide) rfl (by decide) rfl (fun r F' h' hq1 => ?_)
    obtain ⟨rfl, r2, rfl, e9, hh⟩ := hq1
    subst h'
    refine A_ifc hM.1 rfl rfl (fun hc => ?_) (fun hc => ?_)
    · replace hh := OK_t hh hc
      exact c_X12_shares_j96 hM v1 v2 v3 x.1 x.2 hin hout0 hh
    · replace hh := OK_f hh hc
      refine A_blk hM.1 3 (lv1 := [some (aR 150), some (aI v1), some (aI v2), some (aI v3), some (aI x.1)]) (s1 := [aI x.1, aI v2, aR 150]) (h1 := x.2) rfl ?_
      refine A_callV hM rfl rfl (mem_GW 2160 (by decide +kernel) rfl) mi_X12_hasPlace (As := [aI v2, aI x.1]) (rest := []) (ct_X12_hasPlace v2 x.1 x.2 (OK_bind hh)) (by decide) ⟨Nat.zero_le _, Nat.zero_le _⟩ rfl rfl (Nat.le_of_ble_eq_true rfl) (by decide) rfl (by decide) rfl (fun r F' h' hq1 => ?_)
      obtain ⟨rfl, r3, rfl, e9, hh⟩ := hq1
      subst h'
      refine A_ifc hM.1 rfl rfl (fun hc => ?_) (fun hc => ?_)
      · replace hh := OK_t hh hc
        refine A_blk hM.1 13 (lv1 := [some (aR 150), some (aI v1), some (aI v2), some (aI v3), some (aI x.1)]) (s1 := [aI x.1, aI v3, aI v1, aR 150, aI (x.2 150 68), aR 150]) (h1 := setH x.2 150 67 ((x.2 150 67) + 1)) rfl ?_
        refine A_callV hM rfl rfl (mem_GW 2156 (by decide +kernel) rfl) mi_X12_slipsAt (As := [aI v1, aI v3, aI x.1]) (rest := [aI (x.2 150 68), aR 150]) (ct_X12_slipsAt v1 v3 x.1 (setH x.2 150 67 ((x.2 150 67) + 1)) (OK_bind hh)) (by decide) ⟨Nat.zero_le _, Nat.zero_le _⟩ rfl rfl (Nat.le_of_ble_eq_true rfl) (by decide) rfl (by decide) rfl (fun r F' h' hq1 => ?_)
        obtain ⟨rfl, r4, rfl, e9, hh⟩ := hq1
        subst h'
        refine A_ifc hM.1 rfl rfl (fun hc => ?_) (fun hc => ?_)
        · replace hh := OK_t hh hc
          refine A_blk hM.1 1 (lv1 := [some (aR 150), some (aI v1), some (aI v2), some (aI v3), some (aI x.1)]) (s1 := [aI 0, aI (x.2 150 68), aR 150]) (h1 := setH x.2 150 67 ((x.2 150 67) + 1)) rfl ?_
          exact c_X12_shares_j49 hM v1 v2 v3 x.1 (x.2 150 68) 0 (setH x.2 150 67 ((x.2 150 67) + 1)) hin hout0 hh
        · replace hh := OK_f hh hc
          refine A_blk hM.1 1 (lv1 := [some (aR 150), some (aI v1), some (aI v2), some (aI v3), some (aI x.1)]) (s1 := [aI 1, aI (x.2 150 68), aR 150]) (h1 := setH x.2 150 67 ((x.2 150 67) + 1)) rfl ?_
          refine A_go hM.1 rfl rfl ?_
          exact c_X12_shares_j49 hM v1 v2 v3 x.1 (x.2 150 68) 1 (setH x.2 150 67 ((x.2 150 67) + 1)) hin hout0 hh
      · replace hh := OK_f hh hc
        refine A_go hM.1 rfl rfl ?_
        exact c_X12_shares_j96 hM v1 v2 v3 x.1 x.2 hin hout0 hh

set_option maxRecDepth 20000 in
set_option maxHeartbeats 4000000 in
theorem c_X12_shares_l104 {k0 : K0} {G : Gx} {Qp : Option AV → Fx → Hp → Prop} (hM : MB (KM k0 0 0 Qp) G M_X12_shares 3) (x : Int × Hp)   {P : ((Int × Hp) ⊕ (Hp)) → Prop} (hin : ∀ y : Int × Hp, P (.inl y) → ATk (KM k0 0 0 Qp) FN 0 0 M_X12_shares 104 [some (aR 150), none, none, none, some (aI y.1)] [] y.2) (hout0 : ∀ y : Hp, P (.inr y) → ATk (KM k0 0 0 Qp) FN 0 0 M_X12_shares 130 [some (aR 150), none, none, none, none] [] y) (hh : OK (X12_shares_l104 x) P) : ATk (KM k0 0 0 Qp) FN 0 0 M_X12_shares 104 [some (aR 150), none, none, none, some (aI x.1)] [] x.2 := by
  unfold X12_shares_l104 at hh
  refine A_blk hM.1 3 (lv1 := [some (aR 150), none, none, none, some (aI x.1)]) (s1 := [aI (x.2 150 69), aI x.1]) (h1 := x.2) rfl ?_
  refine A_icmp hM.1 rfl rfl (fun hc => ?_) (fun hc => ?_)
  · replace hh := OK_t hh hc
    refine A_mask [true, true, true, true, false] (lv1 := [some (aR 150), none, none, none, none]) rfl ?_
    exact hout0 x.2 hh
  · replace hh := OK_f hh hc
    refine A_blk hM.1 6 (lv1 := [some (aR 150), none, none, none, some (aI x.1)]) (s1 := [aI x.1, aI (x.2 150 68), aL (x.2 150 71), aR 150]) (h1 := x.2) rfl ?_
    refine A_callS hM rfl rfl (mem_GW 2184 (by decide +kernel) rfl) mi_X12_choices ms_X12_choices (As := [aI (x.2 150 68), aI x.1]) (rest := [aL (x.2 150 71), aR 150]) (ct_X12_choices (x.2 150 68) x.1 x.2 (OK_bind hh)) (by decide) ⟨Nat.zero_le _, Nat.zero_le _⟩ rfl rfl (Nat.le_of_ble_eq_true rfl) (fun r F' h' hq1 => ?_)
    obtain ⟨rfl, r10, rfl, e9, hh⟩ := hq1
    subst h'
    refine A_blk hM.1 9 (lv1 := [some (aR 150), none, none, none, some (aI x.1)]) (s1 := [aI ((x.2 150 69) - x.1), aI ((x.2 150 67) - (x.2 150 68)), aL r10, aL (x.2 150 71), aR 150]) (h1 := x.2) rfl ?_
    refine A_callS hM rfl rfl (mem_GW 2184 (by decide +kernel) rfl) mi_X12_choices ms_X12_choices (As := [aI ((x.2 150 67) - (x.2 150 68)), aI ((x.2 150 69) - x.1)]) (rest := [aL r10, aL (x.2 150 71), aR 150]) (ct_X12_choices ((x.2 150 67) - (x.2 150 68)) ((x.2 150 69) - x.1) x.2 (OK_bind hh)) (by decide) ⟨Nat.zero_le _, Nat.zero_le _⟩ rfl rfl (Nat.le_of_ble_eq_true rfl) (fun r F' h' hq1 => ?_)
    obtain ⟨rfl, r11, rfl, e9, hh⟩ := hq1
    subst h'
    refine A_blk hM.1 4 (lv1 := [some (aR 150), none, none, none, some (aI (x.1 + 1))]) (s1 := []) (h1 := setH x.2 150 71 ((x.2 150 71) + (r10 * r11))) rfl ?_
    refine A_go hM.1 rfl rfl ?_
    exact hin (x.1 + 1, setH x.2 150 71 ((x.2 150 71) + (r10 * r11))) hh

set_option maxRecDepth 20000 in
set_option maxHeartbeats 4000000 in
theorem c_X12_shares {k0 : K0} {G : Gx} {Qp : Option AV → Fx → Hp → Prop} (hM : MB (KM k0 0 0 Qp) G M_X12_shares 3) (v1 : Int) (v2 : Int) (v3 : Int) (h : Hp)   {P : Hp → Prop} (hq : ∀ z : Hp, P z → Qp none FN z) (hh : OK (X12_shares v1 v2 v3 h) P) : ATk (KM k0 0 0 Qp) FN 0 0 M_X12_shares 0 [some (aR 150), some (aI v1), some (aI v2), some (aI v3), none] [] h := by
  unfold X12_shares at hh
  refine A_blk hM.1 14 (lv1 := [some (aR 150), some (aI v1), some (aI v2), some (aI v3), some (aI 0)]) (s1 := []) (h1 := setH (setH (setH (setH h 150 67 0) 150 68 0) 150 69 0) 150 70 0) rfl ?_
  refine iter_ok (s := (0, setH (setH (setH (setH h 150 67 0) 150 68 0) 150 69 0) 150 70 0)) (Gp := fun z => ATk (KM k0 0 0 Qp) FN 0 0 M_X12_shares 14 [some (aR 150), some (aI v1), some (aI v2), some (aI v3), some (aI z.1)] [] z.2) (E := fun z => ATk (KM k0 0 0 Qp) FN 0 0 M_X12_shares 98 [some (aR 150), none, none, none, none] [] z) (fun z P1 g1 g2 g3 => c_X12_shares_l14 hM v1 v2 v3 z g2 g3 g1) (OK_bind hh) (fun x9 hh => ?_)
  refine A_blk hM.1 6 (lv1 := [some (aR 150), none, none, none, some (aI (x9 150 70))]) (s1 := []) (h1 := setH x9 150 71 0) rfl ?_
  refine iter_ok (s := (x9 150 70, setH x9 150 71 0)) (Gp := fun z => ATk (KM k0 0 0 Qp) FN 0 0 M_X12_shares 104 [some (aR 150), none, none, none, some (aI z.1)] [] z.2) (E := fun z => ATk (KM k0 0 0 Qp) FN 0 0 M_X12_shares 130 [some (aR 150), none, none, none, none] [] z) (fun z P1 g1 g2 g3 => c_X12_shares_l104 hM  z g2 g3 g1) (OK_bind hh) (fun x12 hh => ?_)
  refine A_blk hM.1 5 (lv1 := [some (aR 150), none, none, none, none]) (s1 := [aI (x12 150 69), aI (x12 150 67), aR 150]) (h1 := x12) rfl ?_
  refine A_callS hM rfl rfl (mem_GW 2184 (by decide +kernel) rfl) mi_X12_choices ms_X12_choices (As := [aI (x12 150 67), aI (x12 150 69)]) (rest := [aR 150]) (ct_X12_choices (x12 150 67) (x12 150 69) x12 (OK_bind hh)) (by decide) ⟨Nat.zero_le _, Nat.zero_le _⟩ rfl rfl (Nat.le_of_ble_eq_true rfl) (fun r F' h' hq1 => ?_)
  obtain ⟨rfl, r13, rfl, e9, hh⟩ := hq1
  subst h'
  refine A_blk hM.1 1 (lv1 := [some (aR 150), none, none, none, none]) (s1 := []) (h1 := setH x12 150 72 r13) rfl ?_
  exact A_retv hM.1 rfl rfl rfl (hq (setH x12 150 72 r13) hh)

set_option maxRecDepth 20000 in
set_option maxHeartbeats 4000000 in
theorem ct_X12_shares {G : Gx} (v1 : Int) (v2 : Int) (v3 : Int) (h : Hp)   {P : Hp → Prop} (hh : OK (X12_shares v1 v2 v3 h) P) : CT G yX12_shares M_X12_shares 3 0 0 FN h [aR 150, aI v1, aI v2, aI v3] (fun r F' h' => F' = FN ∧ r = none ∧ P h') :=
  CT.of (by decide +kernel) rfl (Nat.le_of_ble_eq_true rfl) k_X12_shares fun k0 _ _ hM => c_X12_shares hM v1 v2 v3 h (fun z hz => ⟨rfl, rfl, hz⟩) hh

theorem mi_X12_shared : MIv yX12_shared M_X12_shared 4 := ⟨⟨(mem_GW 2178 (by decide +kernel) rfl), (mem_GW 135 (by decide +kernel) rfl), by decide +kernel, by decide +kernel, by decide +kernel, by decide⟩, (mem_GW 2176 (by decide +kernel) rfl), (mem_GW 2177 (by decide +kernel) rfl)⟩
set_option maxRecDepth 20000 in
set_option maxHeartbeats 4000000 in
theorem c_X12_shared {k0 : K0} {G : Gx} {Qp : Option AV → Fx → Hp → Prop} (hM : MB (KM k0 0 0 Qp) G M_X12_shared 4) (v1 : Int) (v2 : Int) (v3 : Int) (v4 : Int) (h : Hp)   {P : (Int × Hp) → Prop} (hq : ∀ z : Int × Hp, P z → Qp (some (aL z.1)) FN z.2) (hh : OK (X12_shared v1 v2 v3 v4 h) P) : ATk (KM k0 0 0 Qp) FN 0 0 M_X12_shared 0 [some (aR 150), some (aI v1), some (aI v2), some (aI v3), some (aI v4), none, none] [] h := by
  unfold X12_shared at hh
  refine A_blk hM.1 2 (lv1 := [some (aR 150), some (aI v1), some (aI v2), some (aI v3), some (aI v4), none, none]) (s1 := [aI v1, aR 150]) (h1 := h) rfl ?_
  refine A_callV hM rfl rfl (mem_GW 1922 (by decide +kernel) rfl) mi_X12_isWriter (As := [aI v1]) (rest := []) (ct_X12_isWriter v1 h (OK_bind hh)) (by decide) ⟨Nat.zero_le _, Nat.zero_le _⟩ rfl rfl (Nat.le_of_ble_eq_true rfl) (by decide) rfl (by decide) rfl (fun r F' h' hq1 => ?_)
  obtain ⟨rfl, r1, rfl, e9, hh⟩ := hq1
  subst h'
  refine A_ifc hM.1 rfl rfl (fun hc => ?_) (fun hc => ?_)
  · replace hh := OK_t hh hc
    refine A_blk hM.1 1 (lv1 := [some (aR 150), some (aI v1), some (aI v2), some (aI v3), some (aI v4), none, none]) (s1 := [aL (-1)]) (h1 := h) rfl ?_
    exact A_retl hM.1 rfl rfl rfl (hq ((-1), h) hh)
  · replace hh := OK_f hh hc
    refine A_blk hM.1 2 (lv1 := [some (aR 150), some (aI v1), some (aI v2), some (aI v3), some (aI v4), none, none]) (s1 := [aI v2, aR 150]) (h1 := h) rfl ?_
    refine A_callV hM rfl rfl (mem_GW 1922 (by decide +kernel) rfl) mi_X12_isWriter (As := [aI v2]) (rest := []) (ct_X12_isWriter v2 h (OK_bind hh)) (by decide) ⟨Nat.zero_le _, Nat.zero_le _⟩ rfl rfl (Nat.le_of_ble_eq_true rfl) (by decide) rfl (by decide) rfl (fun r F' h' hq1 => ?_)
    obtain ⟨rfl, r2, rfl, e9, hh⟩ := hq1
    subst h'
    refine A_ifc hM.1 rfl rfl (fun hc => ?_) (fun hc => ?_)
    · replace hh := OK_t hh hc
      refine A_blk hM.1 1 (lv1 := [some (aR 150), some (aI v1), some (aI v2), some (aI v3), some (aI v4), none, none]) (s1 := [aL (-1)]) (h1 := h) rfl ?_
      exact A_retl hM.1 rfl rfl rfl (hq ((-1), h) hh)
    · replace hh := OK_f hh hc
      refine A_blk hM.1 2 (lv1 := [some (aR 150), some (aI v1), some (aI v2), some (aI v3), some (aI v4), none, none]) (s1 := [aI v2, aI v1]) (h1 := h) rfl ?_
      refine A_icmp hM.1 rfl rfl (fun hc => ?_) (fun hc => ?_)
      · replace hh := OK_t hh hc
        refine A_blk hM.1 1 (lv1 := [some (aR 150), some (aI v1), some (aI v2), some (aI v3), some (aI v4), none, none]) (s1 := [aL (-1)]) (h1 := h) rfl ?_
        exact A_retl hM.1 rfl rfl rfl (hq ((-1), h) hh)
      · replace hh := OK_f hh hc
        refine A_blk hM.1 2 (lv1 := [some (aR 150), some (aI v1), some (aI v2), some (aI v3), some (aI v4), none, none]) (s1 := [aI v3, aR 150]) (h1 := h) rfl ?_
        refine A_callV hM rfl rfl (mem_GW 2050 (by decide +kernel) rfl) mi_X12_isLeft (As := [aI v3]) (rest := []) (ct_X12_isLeft v3 h (OK_bind hh)) (by decide) ⟨Nat.zero_le _, Nat.zero_le _⟩ rfl rfl (Nat.le_of_ble_eq_true rfl) (by decide) rfl (by decide) rfl (fun r F' h' hq1 => ?_)
        obtain ⟨rfl, r3, rfl, e9, hh⟩ := hq1
        subst h'
        refine A_ifc hM.1 rfl rfl (fun hc => ?_) (fun hc => ?_)
        · replace hh := OK_t hh hc
          refine A_blk hM.1 1 (lv1 := [some (aR 150), some (aI v1), some (aI v2), some (aI v3), some (aI v4), none, none]) (s1 := [aL (-1)]) (h1 := h) rfl ?_
          exact A_retl hM.1 rfl rfl rfl (hq ((-1), h) hh)
        · replace hh := OK_f hh hc
          refine A_blk hM.1 4 (lv1 := [some (aR 150), some (aI v1), some (aI v2), some (aI v3), some (aI v4), none, none]) (s1 := [aL 5, aL 0, aL (w32 v4)]) (h1 := h) rfl ?_
          refine A_callS hM rfl rfl (mem_GW 1879 (by decide +kernel) rfl) mi_X12_lies ms_X12_lies (As := [aL (w32 v4), aL 0, aL 5]) (rest := []) (ct_X12_lies (w32 v4) 0 5 h (OK_bind hh)) (by decide) ⟨Nat.zero_le _, Nat.zero_le _⟩ rfl rfl (Nat.le_of_ble_eq_true rfl) (fun r F' h' hq1 => ?_)
          obtain ⟨rfl, r4, rfl, e9, hh⟩ := hq1
          subst h'
          refine A_ifc hM.1 rfl rfl (fun hc => ?_) (fun hc => ?_)
          · replace hh := OK_t hh hc
            refine A_blk hM.1 2 (lv1 := [some (aR 150), some (aI v1), some (aI v2), some (aI v3), some (aI v4), none, none]) (s1 := [aI v3, aR 150]) (h1 := h) rfl ?_
            refine A_callV hM rfl rfl (mem_GW 2148 (by decide +kernel) rfl) mi_X12_lays (As := [aI v3]) (rest := []) (ct_X12_lays v3 h (OK_bind hh)) (by decide) ⟨Nat.zero_le _, Nat.zero_le _⟩ rfl rfl (Nat.le_of_ble_eq_true rfl) (by decide) rfl (by decide) rfl (fun r F' h' hq1 => ?_)
            obtain ⟨rfl, rfl, hh⟩ := hq1
            obtain ⟨r5, rfl⟩ : ∃ z, z = h' := ⟨_, rfl⟩
            refine A_blk hM.1 4 (lv1 := [some (aR 150), some (aI v1), some (aI v2), some (aI v3), some (aI v4), none, none]) (s1 := [aI v3, aI v2, aI v1, aR 150]) (h1 := r5) rfl ?_
            refine A_callV hM rfl rfl (mem_GW 2180 (by decide +kernel) rfl) mi_X12_shares (As := [aI v1, aI v2, aI v3]) (rest := []) (ct_X12_shares v1 v2 v3 r5 (OK_bind hh)) (by decide) ⟨Nat.zero_le _, Nat.zero_le _⟩ rfl rfl (Nat.le_of_ble_eq_true rfl) (by decide) rfl (by decide) rfl (fun r F' h' hq1 => ?_)
            obtain ⟨rfl, rfl, hh⟩ := hq1
            obtain ⟨r6, rfl⟩ : ∃ z, z = h' := ⟨_, rfl⟩
            refine A_blk hM.1 4 (lv1 := [some (aR 150), some (aI v1), some (aI v2), some (aI v3), some (aI v4), none, none]) (s1 := [aL (r6 150 72), aL (r6 150 71)]) (h1 := r6) rfl ?_
            refine A_callS hM rfl rfl (mem_GW 2187 (by decide +kernel) rfl) mi_X12_divisor ms_X12_divisor (As := [aL (r6 150 71), aL (r6 150 72)]) (rest := []) (ct_X12_divisor (r6 150 71) (r6 150 72) r6 (OK_bind hh)) (by decide) ⟨Nat.zero_le _, Nat.zero_le _⟩ rfl rfl (Nat.le_of_ble_eq_true rfl) (fun r F' h' hq1 => ?_)
            obtain ⟨rfl, r7, rfl, e9, hh⟩ := hq1
            subst h'
            refine A_blk hM.1 2 (lv1 := [some (aR 150), some (aI v1), some (aI v2), some (aI v3), some (aI v4), some (aL r7), none]) (s1 := [aI v4]) (h1 := r6) rfl ?_
            refine A_ifc hM.1 rfl rfl (fun hc => ?_) (fun hc => ?_)
            · replace hh := OK_t hh hc
              refine A_blk hM.1 2 (lv1 := [some (aR 150), some (aI v1), some (aI v2), some (aI v3), some (aI v4), some (aL r7), none]) (s1 := [aI 1, aI v4]) (h1 := r6) rfl ?_
              refine A_icmp hM.1 rfl rfl (fun hc => ?_) (fun hc => ?_)
              · replace hh := OK_t hh hc
                refine A_blk hM.1 2 (lv1 := [some (aR 150), some (aI v1), some (aI v2), some (aI v3), some (aI v4), some (aL r7), none]) (s1 := [aI 2, aI v4]) (h1 := r6) rfl ?_
                refine A_icmp hM.1 rfl rfl (fun hc => ?_) (fun hc => ?_)
                · replace hh := OK_t hh hc
                  refine A_blk hM.1 2 (lv1 := [some (aR 150), some (aI v1), some (aI v2), some (aI v3), some (aI v4), some (aL r7), none]) (s1 := [aI 3, aI v4]) (h1 := r6) rfl ?_
                  refine A_icmp hM.1 rfl rfl (fun hc => ?_) (fun hc => ?_)
                  · replace hh := OK_t hh hc
                    refine A_blk hM.1 2 (lv1 := [some (aR 150), some (aI v1), some (aI v2), some (aI v3), some (aI v4), some (aL r7), none]) (s1 := [aI 4, aI v4]) (h1 := r6) rfl ?_
                    refine A_icmp hM.1 rfl rfl (fun hc => ?_) (fun hc => ?_)
                    · replace hh := OK_t hh hc
                      refine A_blk hM.1 3 (lv1 := [some (aR 150), some (aI v1), some (aI v2), some (aI v3), some (aI v4), some (aL r7), none]) (s1 := [aL r7, aL (r6 150 72)]) (h1 := r6) rfl ?_
                      obtain ⟨g8, hh⟩ := OK_g hh
                      refine A_ldiv hM.1 rfl rfl g8 ?_
                      exact A_retl hM.1 rfl rfl rfl (hq (div64 (r6 150 72) r7, r6) hh)
                    · replace hh := OK_f hh hc
                      refine A_blk hM.1 3 (lv1 := [some (aR 150), some (aI v1), some (aI v2), some (aI v3), some (aI v4), some (aL r7), none]) (s1 := [aL r7, aL (r6 150 71)]) (h1 := r6) rfl ?_
                      obtain ⟨g9, hh⟩ := OK_g hh
                      refine A_ldiv hM.1 rfl rfl g9 ?_
                      refine A_go hM.1 rfl rfl ?_
                      exact A_retl hM.1 rfl rfl rfl (hq (div64 (r6 150 71) r7, r6) hh)
                  · replace hh := OK_f hh hc
                    refine A_blk hM.1 3 (lv1 := [some (aR 150), some (aI v1), some (aI v2), some (aI v3), some (aI v4), some (aL r7), none]) (s1 := [aL (w32 (r6 150 70))]) (h1 := r6) rfl ?_
                    refine A_go hM.1 rfl rfl ?_
                    exact A_retl hM.1 rfl rfl rfl (hq (w32 (r6 150 70), r6) hh)
                · replace hh := OK_f hh hc
                  refine A_blk hM.1 3 (lv1 := [some (aR 150), some (aI v1), some (aI v2), some (aI v3), some (aI v4), some (aL r7), none]) (s1 := [aL (w32 (r6 150 69))]) (h1 := r6) rfl ?_
                  refine A_go hM.1 rfl rfl ?_
                  exact A_retl hM.1 rfl rfl rfl (hq (w32 (r6 150 69), r6) hh)
              · replace hh := OK_f hh hc
                refine A_blk hM.1 3 (lv1 := [some (aR 150), some (aI v1), some (aI v2), some (aI v3), some (aI v4), some (aL r7), none]) (s1 := [aL (w32 (r6 150 68))]) (h1 := r6) rfl ?_
                refine A_go hM.1 rfl rfl ?_
                exact A_retl hM.1 rfl rfl rfl (hq (w32 (r6 150 68), r6) hh)
            · replace hh := OK_f hh hc
              refine A_blk hM.1 3 (lv1 := [some (aR 150), some (aI v1), some (aI v2), some (aI v3), some (aI v4), some (aL r7), none]) (s1 := [aL (w32 (r6 150 67))]) (h1 := r6) rfl ?_
              refine A_go hM.1 rfl rfl ?_
              exact A_retl hM.1 rfl rfl rfl (hq (w32 (r6 150 67), r6) hh)
          · replace hh := OK_f hh hc
            refine A_blk hM.1 1 (lv1 := [some (aR 150), some (aI v1), some (aI v2), some (aI v3), some (aI v4), none, none]) (s1 := [aL (-1)]) (h1 := h) rfl ?_
            exact A_retl hM.1 rfl rfl rfl (hq ((-1), h) hh)

set_option maxRecDepth 20000 in
set_option maxHeartbeats 4000000 in
theorem ct_X12_shared {G : Gx} (v1 : Int) (v2 : Int) (v3 : Int) (v4 : Int) (h : Hp)   {P : (Int × Hp) → Prop} (hh : OK (X12_shared v1 v2 v3 v4 h) P) : CT G yX12_shared M_X12_shared 4 0 0 FN h [aR 150, aI v1, aI v2, aI v3, aI v4] (fun r F' h' => F' = FN ∧ ∃ z, r = some (aL z.1) ∧ h' = z.2 ∧ P z) :=
  CT.of (by decide +kernel) rfl (Nat.le_of_ble_eq_true rfl) k_X12_shared fun k0 _ _ hM => c_X12_shared hM v1 v2 v3 v4 h (fun z hz => ⟨rfl, z, rfl, rfl, hz⟩) hh

theorem mi_X12_groups : MIv yX12_groups M_X12_groups 2 := ⟨⟨(mem_GW 2193 (by decide +kernel) rfl), (mem_GW 135 (by decide +kernel) rfl), by decide +kernel, by decide +kernel, by decide +kernel, by decide⟩, (mem_GW 2191 (by decide +kernel) rfl), (mem_GW 2192 (by decide +kernel) rfl)⟩
set_option maxRecDepth 20000 in
set_option maxHeartbeats 4000000 in
theorem c_X12_groups_l14 {k0 : K0} {G : Gx} {Qp : Option AV → Fx → Hp → Prop} (hM : MB (KM k0 0 0 Qp) G M_X12_groups 4) (v1 : Int) (v2 : Int) (x : Int × Hp)   {P : ((Int × Hp) ⊕ (Hp)) → Prop} (hin : ∀ y : Int × Hp, P (.inl y) → ATk (KM k0 0 0 Qp) FN 0 0 M_X12_groups 14 [some (aR 150), some (aI v1), some (aI v2), some (aI y.1), none, none] [] y.2) (hout0 : ∀ y : Hp, P (.inr y) → ATk (KM k0 0 0 Qp) FN 0 0 M_X12_groups 27 [some (aR 150), some (aI v1), some (aI v2), none, none, none] [] y) (hh : OK (X12_groups_l14 v1 v2 x) P) : ATk (KM k0 0 0 Qp) FN 0 0 M_X12_groups 14 [some (aR 150), some (aI v1), some (aI v2), some (aI x.1), none, none] [] x.2 := by
  unfold X12_groups_l14 at hh
  refine A_blk hM.1 3 (lv1 := [some (aR 150), some (aI v1), some (aI v2), some (aI x.1), none, none]) (s1 := [aI (x.2 150 4), aI x.1]) (h1 := x.2) rfl ?_
  refine A_icmp hM.1 rfl rfl (fun hc => ?_) (fun hc => ?_)
  · replace hh := OK_t hh hc
    refine A_mask [true, true, true, false, true, true] (lv1 := [some (aR 150), some (aI v1), some (aI v2), none, none, none]) rfl ?_
    exact hout0 x.2 hh
  · replace hh := OK_f hh hc
    refine A_blk hM.1 6 (lv1 := [some (aR 150), some (aI v1), some (aI v2), some (aI x.1), none, none]) (s1 := [aI (shl32 1 x.1), aI x.1, aR 186]) (h1 := x.2) rfl ?_
    obtain ⟨g3, hh⟩ := OK_g hh
    refine A_ast hM.1 rfl (Or.inl ⟨rfl, rfl, rfl⟩) rfl rfl rfl g3 ?_
    refine A_blk hM.1 1 (lv1 := [some (aR 150), some (aI v1), some (aI v2), some (aI (x.1 + 1)), none, none]) (s1 := []) (h1 := setH x.2 186 ((w32 x.1).toNat) (shl32 1 x.1)) rfl ?_
    refine A_go hM.1 rfl rfl ?_
    exact hin (x.1 + 1, setH x.2 186 ((w32 x.1).toNat) (shl32 1 x.1)) hh

set_option maxRecDepth 20000 in
set_option maxHeartbeats 4000000 in
theorem c_X12_groups_j86 {k0 : K0} {G : Gx} {Qp : Option AV → Fx → Hp → Prop} (hM : MB (KM k0 0 0 Qp) G M_X12_groups 4) (v1 : Int) (v2 : Int) (v3 : Int) (v4 : Int) (v5 : Int) (h : Hp)   {P : ((Int × Hp) ⊕ (Hp)) → Prop} (hin : ∀ y : Int × Hp, P (.inl y) → ATk (KM k0 0 0 Qp) FN 0 0 M_X12_groups 49 [some (aR 150), some (aI v1), some (aI v2), some (aI v3), some (aI v4), some (aI y.1)] [] y.2) (hout0 : ∀ y : Hp, P (.inr y) → ATk (KM k0 0 0 Qp) FN 0 0 M_X12_groups 88 [some (aR 150), some (aI v1), some (aI v2), some (aI v3), some (aI v4), none] [] y) (hh : OK (X12_groups_j86 v1 v2 v3 v4 v5 h) P) : ATk (KM k0 0 0 Qp) FN 0 0 M_X12_groups 86 [some (aR 150), some (aI v1), some (aI v2), some (aI v3), some (aI v4), some (aI v5)] [] h := by
  unfold X12_groups_j86 at hh
  refine A_blk hM.1 1 (lv1 := [some (aR 150), some (aI v1), some (aI v2), some (aI v3), some (aI v4), some (aI (v5 + 1))]) (s1 := []) (h1 := h) rfl ?_
  refine A_go hM.1 rfl rfl ?_
  exact hin (v5 + 1, h) hh

set_option maxRecDepth 20000 in
set_option maxHeartbeats 4000000 in
theorem c_X12_groups_l49 {k0 : K0} {G : Gx} {Qp : Option AV → Fx → Hp → Prop} (hM : MB (KM k0 0 0 Qp) G M_X12_groups 4) (v1 : Int) (v2 : Int) (v3 : Int) (v4 : Int) (x : Int × Hp)   {P : ((Int × Hp) ⊕ (Hp)) → Prop} (hin : ∀ y : Int × Hp, P (.inl y) → ATk (KM k0 0 0 Qp) FN 0 0 M_X12_groups 49 [some (aR 150), some (aI v1), some (aI v2), some (aI v3), some (aI v4), some (aI y.1)] [] y.2) (hout0 : ∀ y : Hp, P (.inr y) → ATk (KM k0 0 0 Qp) FN 0 0 M_X12_groups 88 [some (aR 150), some (aI v1), some (aI v2), some (aI v3), some (aI v4), none] [] y) (hh : OK (X12_groups_l49 v1 v2 v3 v4 x) P) : ATk (KM k0 0 0 Qp) FN 0 0 M_X12_groups 49 [some (aR 150), some (aI v1), some (aI v2), some (aI v3), some (aI v4), some (aI x.1)] [] x.2 := by
  unfold X12_groups_l49 at hh
  refine A_blk hM.1 3 (lv1 := [some (aR 150), some (aI v1), some (aI v2), some (aI v3), some (aI v4), some (aI x.1)]) (s1 := [aI (x.2 150 4), aI x.1]) (h1 := x.2) rfl ?_
  refine A_icmp hM.1 rfl rfl (fun hc => ?_) (fun hc => ?_)
  · replace hh := OK_t hh hc
    refine A_mask [true, true, true, true, true, false] (lv1 := [some (aR 150), some (aI v1), some (aI v2), some (aI v3), some (aI v4), none]) rfl ?_
    exact hout0 x.2 hh
  · replace hh := OK_f hh hc
    refine A_blk hM.1 2 (lv1 := [some (aR 150), some (aI v1), some (aI v2), some (aI v3), some (aI v4), some (aI x.1)]) (s1 := [aI x.1, aI v4]) (h1 := x.2) rfl ?_
    refine A_icmp hM.1 rfl rfl (fun hc => ?_) (fun hc => ?_)
    · replace hh := OK_t hh hc
      refine A_blk hM.1 4 (lv1 := [some (aR 150), some (aI v1), some (aI v2), some (aI v3), some (aI v4), some (aI x.1)]) (s1 := [aI v3, aI x.1, aI v4, aR 150]) (h1 := x.2) rfl ?_
      refine A_callV hM rfl rfl (mem_GW 2180 (by decide +kernel) rfl) mi_X12_shares (As := [aI v4, aI x.1, aI v3]) (rest := []) (ct_X12_shares v4 x.1 v3 x.2 (OK_bind hh)) (by decide) ⟨Nat.zero_le _, Nat.zero_le _⟩ rfl rfl (Nat.le_of_ble_eq_true rfl) (by decide) rfl (by decide) rfl (fun r F' h' hq1 => ?_)
      obtain ⟨rfl, rfl, hh⟩ := hq1
      obtain ⟨r7, rfl⟩ : ∃ z, z = h' := ⟨_, rfl⟩
      refine A_blk hM.1 2 (lv1 := [some (aR 150), some (aI v1), some (aI v2), some (aI v3), some (aI v4), some (aI x.1)]) (s1 := [aI (r7 150 70)]) (h1 := r7) rfl ?_
      refine A_ifc hM.1 rfl rfl (fun hc => ?_) (fun hc => ?_)
      · replace hh := OK_t hh hc
        exact c_X12_groups_j86 hM v1 v2 v3 v4 x.1 r7 hin hout0 hh
      · replace hh := OK_f hh hc
        refine A_blk hM.1 10 (lv1 := [some (aR 150), some (aI v1), some (aI v2), some (aI v3), some (aI v4), some (aI x.1)]) (s1 := [aI (cmp64 ((r7 150 71) * 1000) ((w32 v2) * (r7 150 72)))]) (h1 := r7) rfl ?_
        refine A_ifc hM.1 rfl rfl (fun hc => ?_) (fun hc => ?_)
        · replace hh := OK_t hh hc
          exact c_X12_groups_j86 hM v1 v2 v3 v4 x.1 r7 hin hout0 hh
        · replace hh := OK_f hh hc
          refine A_blk hM.1 4 (lv1 := [some (aR 150), some (aI v1), some (aI v2), some (aI v3), some (aI v4), some (aI x.1)]) (s1 := [aI v4, aR 186, aI v4, aR 186]) (h1 := r7) rfl ?_
          obtain ⟨g8, hh⟩ := OK_g hh
          refine A_ald hM.1 rfl (Or.inl ⟨rfl, rfl⟩) rfl (by decide) rfl g8 ?_
          refine A_blk hM.1 4 (lv1 := [some (aR 150), some (aI v1), some (aI v2), some (aI v3), some (aI v4), some (aI x.1)]) (s1 := [aI (or32 (r7 186 ((w32 v4).toNat)) (shl32 1 x.1)), aI v4, aR 186]) (h1 := r7) rfl ?_
          obtain ⟨g9, hh⟩ := OK_g hh
          refine A_ast hM.1 rfl (Or.inl ⟨rfl, rfl, rfl⟩) rfl rfl rfl g9 ?_
          exact c_X12_groups_j86 hM v1 v2 v3 v4 x.1 (setH r7 186 ((w32 v4).toNat) (or32 (r7 186 ((w32 v4).toNat)) (shl32 1 x.1))) hin hout0 hh
    · replace hh := OK_f hh hc
      refine A_go hM.1 rfl rfl ?_
      exact c_X12_groups_j86 hM v1 v2 v3 v4 x.1 x.2 hin hout0 hh

set_option maxRecDepth 20000 in
set_option maxHeartbeats 4000000 in
theorem c_X12_groups_l43 {k0 : K0} {G : Gx} {Qp : Option AV → Fx → Hp → Prop} (hM : MB (KM k0 0 0 Qp) G M_X12_groups 4) (v1 : Int) (v2 : Int) (v3 : Int) (x : Int × Hp)   {P : ((Int × Hp) ⊕ (Hp)) → Prop} (hin : ∀ y : Int × Hp, P (.inl y) → ATk (KM k0 0 0 Qp) FN 0 0 M_X12_groups 43 [some (aR 150), some (aI v1), some (aI v2), some (aI v3), some (aI y.1), none] [] y.2) (hout0 : ∀ y : Hp, P (.inr y) → ATk (KM k0 0 0 Qp) FN 0 0 M_X12_groups 90 [some (aR 150), some (aI v1), some (aI v2), some (aI v3), none, none] [] y) (hh : OK (X12_groups_l43 v1 v2 v3 x) P) : ATk (KM k0 0 0 Qp) FN 0 0 M_X12_groups 43 [some (aR 150), some (aI v1), some (aI v2), some (aI v3), some (aI x.1), none] [] x.2 := by
  unfold X12_groups_l43 at hh
  refine A_blk hM.1 3 (lv1 := [some (aR 150), some (aI v1), some (aI v2), some (aI v3), some (aI x.1), none]) (s1 := [aI (x.2 150 4), aI x.1]) (h1 := x.2) rfl ?_
  refine A_icmp hM.1 rfl rfl (fun hc => ?_) (fun hc => ?_)
  · replace hh := OK_t hh hc
    refine A_mask [true, true, true, true, false, true] (lv1 := [some (aR 150), some (aI v1), some (aI v2), some (aI v3), none, none]) rfl ?_
    exact hout0 x.2 hh
  · replace hh := OK_f hh hc
    refine A_blk hM.1 2 (lv1 := [some (aR 150), some (aI v1), some (aI v2), some (aI v3), some (aI x.1), some (aI 0)]) (s1 := []) (h1 := x.2) rfl ?_
    refine iter_ok (s := (0, x.2)) (Gp := fun z => ATk (KM k0 0 0 Qp) FN 0 0 M_X12_groups 49 [some (aR 150), some (aI v1), some (aI v2), some (aI v3), some (aI x.1), some (aI z.1)] [] z.2) (E := fun z => ATk (KM k0 0 0 Qp) FN 0 0 M_X12_groups 88 [some (aR 150), some (aI v1), some (aI v2), some (aI v3), some (aI x.1), none] [] z) (fun z P1 g1 g2 g3 => c_X12_groups_l49 hM v1 v2 v3 x.1 z g2 g3 g1) (OK_bind hh) (fun x10 hh => ?_)
    refine A_blk hM.1 1 (lv1 := [some (aR 150), some (aI v1), some (aI v2), some (aI v3), some (aI (x.1 + 1)), none]) (s1 := []) (h1 := x10) rfl ?_
    refine A_go hM.1 rfl rfl ?_
    exact hin (x.1 + 1, x10) hh

set_option maxRecDepth 20000 in
set_option maxHeartbeats 4000000 in
theorem c_X12_groups_j90 {k0 : K0} {G : Gx} {Qp : Option AV → Fx → Hp → Prop} (hM : MB (KM k0 0 0 Qp) G M_X12_groups 4) (v1 : Int) (v2 : Int) (v3 : Int) (h : Hp)   {P : ((Int × Hp) ⊕ (Hp)) → Prop} (hin : ∀ y : Int × Hp, P (.inl y) → ATk (KM k0 0 0 Qp) FN 0 0 M_X12_groups 29 [some (aR 150), some (aI v1), some (aI v2), some (aI y.1), none, none] [] y.2) (hout0 : ∀ y : Hp, P (.inr y) → ATk (KM k0 0 0 Qp) FN 0 0 M_X12_groups 92 [some (aR 150), some (aI v1), none, none, none, none] [] y) (hh : OK (X12_groups_j90 v1 v2 v3 h) P) : ATk (KM k0 0 0 Qp) FN 0 0 M_X12_groups 90 [some (aR 150), some (aI v1), some (aI v2), some (aI v3), none, none] [] h := by
  unfold X12_groups_j90 at hh
  refine A_blk hM.1 1 (lv1 := [some (aR 150), some (aI v1), some (aI v2), some (aI (v3 + 1)), none, none]) (s1 := []) (h1 := h) rfl ?_
  refine A_go hM.1 rfl rfl ?_
  exact hin (v3 + 1, h) hh

set_option maxRecDepth 20000 in
set_option maxHeartbeats 4000000 in
theorem c_X12_groups_l29 {k0 : K0} {G : Gx} {Qp : Option AV → Fx → Hp → Prop} (hM : MB (KM k0 0 0 Qp) G M_X12_groups 4) (v1 : Int) (v2 : Int) (x : Int × Hp)   {P : ((Int × Hp) ⊕ (Hp)) → Prop} (hin : ∀ y : Int × Hp, P (.inl y) → ATk (KM k0 0 0 Qp) FN 0 0 M_X12_groups 29 [some (aR 150), some (aI v1), some (aI v2), some (aI y.1), none, none] [] y.2) (hout0 : ∀ y : Hp, P (.inr y) → ATk (KM k0 0 0 Qp) FN 0 0 M_X12_groups 92 [some (aR 150), some (aI v1), none, none, none, none] [] y) (hh : OK (X12_groups_l29 v1 v2 x) P) : ATk (KM k0 0 0 Qp) FN 0 0 M_X12_groups 29 [some (aR 150), some (aI v1), some (aI v2), some (aI x.1), none, none] [] x.2 := by
  unfold X12_groups_l29 at hh
  refine A_blk hM.1 3 (lv1 := [some (aR 150), some (aI v1), some (aI v2), some (aI x.1), none, none]) (s1 := [aI (x.2 150 3), aI x.1]) (h1 := x.2) rfl ?_
  refine A_icmp hM.1 rfl rfl (fun hc => ?_) (fun hc => ?_)
  · replace hh := OK_t hh hc
    refine A_mask [true, true, false, false, true, true] (lv1 := [some (aR 150), some (aI v1), none, none, none, none]) rfl ?_
    exact hout0 x.2 hh
  · replace hh := OK_f hh hc
    refine A_blk hM.1 2 (lv1 := [some (aR 150), some (aI v1), some (aI v2), some (aI x.1), none, none]) (s1 := [aI x.1, aR 150]) (h1 := x.2) rfl ?_
    refine A_callV hM rfl rfl (mem_GW 2050 (by decide +kernel) rfl) mi_X12_isLeft (As := [aI x.1]) (rest := []) (ct_X12_isLeft x.1 x.2 (OK_bind hh)) (by decide) ⟨Nat.zero_le _, Nat.zero_le _⟩ rfl rfl (Nat.le_of_ble_eq_true rfl) (by decide) rfl (by decide) rfl (fun r F' h' hq1 => ?_)
    obtain ⟨rfl, r5, rfl, e9, hh⟩ := hq1
    subst h'
    refine A_ifc hM.1 rfl rfl (fun hc => ?_) (fun hc => ?_)
    · replace hh := OK_t hh hc
      refine A_blk hM.1 2 (lv1 := [some (aR 150), some (aI v1), some (aI v2), some (aI x.1), none, none]) (s1 := [aI x.1, aR 150]) (h1 := x.2) rfl ?_
      refine A_callV hM rfl rfl (mem_GW 2148 (by decide +kernel) rfl) mi_X12_lays (As := [aI x.1]) (rest := []) (ct_X12_lays x.1 x.2 (OK_bind hh)) (by decide) ⟨Nat.zero_le _, Nat.zero_le _⟩ rfl rfl (Nat.le_of_ble_eq_true rfl) (by decide) rfl (by decide) rfl (fun r F' h' hq1 => ?_)
      obtain ⟨rfl, rfl, hh⟩ := hq1
      obtain ⟨r6, rfl⟩ : ∃ z, z = h' := ⟨_, rfl⟩
      refine A_blk hM.1 2 (lv1 := [some (aR 150), some (aI v1), some (aI v2), some (aI x.1), some (aI 0), none]) (s1 := []) (h1 := r6) rfl ?_
      refine iter_ok (s := (0, r6)) (Gp := fun z => ATk (KM k0 0 0 Qp) FN 0 0 M_X12_groups 43 [some (aR 150), some (aI v1), some (aI v2), some (aI x.1), some (aI z.1), none] [] z.2) (E := fun z => ATk (KM k0 0 0 Qp) FN 0 0 M_X12_groups 90 [some (aR 150), some (aI v1), some (aI v2), some (aI x.1), none, none] [] z) (fun z P1 g1 g2 g3 => c_X12_groups_l43 hM v1 v2 x.1 z g2 g3 g1) (OK_bind hh) (fun x11 hh => ?_)
      exact c_X12_groups_j90 hM v1 v2 x.1 x11 hin hout0 hh
    · replace hh := OK_f hh hc
      refine A_go hM.1 rfl rfl ?_
      exact c_X12_groups_j90 hM v1 v2 x.1 x.2 hin hout0 hh

set_option maxRecDepth 20000 in
set_option maxHeartbeats 4000000 in
theorem c_X12_groups_j120 {k0 : K0} {G : Gx} {Qp : Option AV → Fx → Hp → Prop} (hM : MB (KM k0 0 0 Qp) G M_X12_groups 4) (v4 : Int) (v5 : Int) (s0 : Int) (s1 : Int) (h : Hp)   {P : ((Int × Int × Hp) ⊕ (Int × Hp)) → Prop} (hin : ∀ y : Int × Int × Hp, P (.inl y) → ATk (KM k0 0 0 Qp) FN 0 0 M_X12_groups 104 [some (aR 150), none, none, some (aI y.1), some (aI v4), some (aI y.2.1)] [] y.2.2) (hout0 : ∀ y : Int × Hp, P (.inr y) → ATk (KM k0 0 0 Qp) FN 0 0 M_X12_groups 124 [some (aR 150), none, none, some (aI y.1), some (aI v4), none] [] y.2) (hh : OK (X12_groups_j120 v4 v5 s0 s1 h) P) : ATk (KM k0 0 0 Qp) FN 0 0 M_X12_groups 120 [some (aR 150), none, none, none, some (aI v4), some (aI v5)] [aI s1, aI s0] h := by
  unfold X12_groups_j120 at hh
  refine A_blk hM.1 3 (lv1 := [some (aR 150), none, none, some (aI (or32 s0 s1)), some (aI v4), some (aI (v5 + 1))]) (s1 := []) (h1 := h) rfl ?_
  refine A_go hM.1 rfl rfl ?_
  exact hin (or32 s0 s1, v5 + 1, h) hh

set_option maxRecDepth 20000 in
set_option maxHeartbeats 4000000 in
theorem c_X12_groups_l104 {k0 : K0} {G : Gx} {Qp : Option AV → Fx → Hp → Prop} (hM : MB (KM k0 0 0 Qp) G M_X12_groups 4) (v4 : Int) (x : Int × Int × Hp)   {P : ((Int × Int × Hp) ⊕ (Int × Hp)) → Prop} (hin : ∀ y : Int × Int × Hp, P (.inl y) → ATk (KM k0 0 0 Qp) FN 0 0 M_X12_groups 104 [some (aR 150), none, none, some (aI y.1), some (aI v4), some (aI y.2.1)] [] y.2.2) (hout0 : ∀ y : Int × Hp, P (.inr y) → ATk (KM k0 0 0 Qp) FN 0 0 M_X12_groups 124 [some (aR 150), none, none, some (aI y.1), some (aI v4), none] [] y.2) (hh : OK (X12_groups_l104 v4 x) P) : ATk (KM k0 0 0 Qp) FN 0 0 M_X12_groups 104 [some (aR 150), none, none, some (aI x.1), some (aI v4), some (aI x.2.1)] [] x.2.2 := by
  unfold X12_groups_l104 at hh
  refine A_blk hM.1 3 (lv1 := [some (aR 150), none, none, some (aI x.1), some (aI v4), some (aI x.2.1)]) (s1 := [aI (x.2.2 150 4), aI x.2.1]) (h1 := x.2.2) rfl ?_
  refine A_icmp hM.1 rfl rfl (fun hc => ?_) (fun hc => ?_)
  · replace hh := OK_t hh hc
    refine A_mask [true, true, true, true, true, false] (lv1 := [some (aR 150), none, none, some (aI x.1), some (aI v4), none]) rfl ?_
    exact hout0 (x.1, x.2.2) hh
  · replace hh := OK_f hh hc
    refine A_blk hM.1 4 (lv1 := [some (aR 150), none, none, some (aI x.1), some (aI v4), some (aI x.2.1)]) (s1 := [aI x.2.1, aL (w32 x.1), aI x.1]) (h1 := x.2.2) rfl ?_
    refine A_callS hM rfl rfl (mem_GW 2195 (by decide +kernel) rfl) mi_X12_has ms_X12_has (As := [aL (w32 x.1), aI x.2.1]) (rest := [aI x.1]) (ct_X12_has (w32 x.1) x.2.1 x.2.2 (OK_bind hh)) (by decide) ⟨Nat.zero_le _, Nat.zero_le _⟩ rfl rfl (Nat.le_of_ble_eq_true rfl) (fun r F' h' hq1 => ?_)
    obtain ⟨rfl, r13, rfl, e9, hh⟩ := hq1
    subst h'
    refine A_ifc hM.1 rfl rfl (fun hc => ?_) (fun hc => ?_)
    · replace hh := OK_t hh hc
      refine A_blk hM.1 1 (lv1 := [some (aR 150), none, none, some (aI x.1), some (aI v4), some (aI x.2.1)]) (s1 := [aI 0, aI x.1]) (h1 := x.2.2) rfl ?_
      refine A_mask [true, true, true, false, true, true] (lv1 := [some (aR 150), none, none, none, some (aI v4), some (aI x.2.1)]) rfl ?_
      exact c_X12_groups_j120 hM v4 x.2.1 x.1 0 x.2.2 hin hout0 hh
    · replace hh := OK_f hh hc
      refine A_blk hM.1 3 (lv1 := [some (aR 150), none, none, some (aI x.1), some (aI v4), some (aI x.2.1)]) (s1 := [aI x.2.1, aR 186, aI x.1]) (h1 := x.2.2) rfl ?_
      obtain ⟨g14, hh⟩ := OK_g hh
      refine A_ald hM.1 rfl (Or.inl ⟨rfl, rfl⟩) rfl (by decide) rfl g14 ?_
      refine A_go hM.1 rfl rfl ?_
      refine A_mask [true, true, true, false, true, true] (lv1 := [some (aR 150), none, none, none, some (aI v4), some (aI x.2.1)]) rfl ?_
      exact c_X12_groups_j120 hM v4 x.2.1 x.1 (x.2.2 186 ((w32 x.2.1).toNat)) x.2.2 hin hout0 hh

set_option maxRecDepth 20000 in
set_option maxHeartbeats 4000000 in
theorem c_X12_groups_l98 {k0 : K0} {G : Gx} {Qp : Option AV → Fx → Hp → Prop} (hM : MB (KM k0 0 0 Qp) G M_X12_groups 4) (x : Int × Int × Hp)   {P : ((Int × Int × Hp) ⊕ (Int × Hp)) → Prop} (hin : ∀ y : Int × Int × Hp, P (.inl y) → ATk (KM k0 0 0 Qp) FN 0 0 M_X12_groups 98 [some (aR 150), none, none, some (aI y.1), some (aI y.2.1), none] [] y.2.2) (hout0 : ∀ y : Int × Hp, P (.inr y) → ATk (KM k0 0 0 Qp) FN 0 0 M_X12_groups 126 [some (aR 150), none, none, some (aI y.1), none, none] [] y.2) (hh : OK (X12_groups_l98 x) P) : ATk (KM k0 0 0 Qp) FN 0 0 M_X12_groups 98 [some (aR 150), none, none, some (aI x.1), some (aI x.2.1), none] [] x.2.2 := by
  unfold X12_groups_l98 at hh
  refine A_blk hM.1 3 (lv1 := [some (aR 150), none, none, some (aI x.1), some (aI x.2.1), none]) (s1 := [aI (x.2.2 150 4), aI x.2.1]) (h1 := x.2.2) rfl ?_
  refine A_icmp hM.1 rfl rfl (fun hc => ?_) (fun hc => ?_)
  · replace hh := OK_t hh hc
    refine A_mask [true, true, true, true, false, true] (lv1 := [some (aR 150), none, none, some (aI x.1), none, none]) rfl ?_
    exact hout0 (x.1, x.2.2) hh
  · replace hh := OK_f hh hc
    refine A_blk hM.1 2 (lv1 := [some (aR 150), none, none, some (aI x.1), some (aI x.2.1), some (aI 0)]) (s1 := []) (h1 := x.2.2) rfl ?_
    refine iter_ok (s := (x.1, 0, x.2.2)) (Gp := fun z => ATk (KM k0 0 0 Qp) FN 0 0 M_X12_groups 104 [some (aR 150), none, none, some (aI z.1), some (aI x.2.1), some (aI z.2.1)] [] z.2.2) (E := fun z => ATk (KM k0 0 0 Qp) FN 0 0 M_X12_groups 124 [some (aR 150), none, none, some (aI z.1), some (aI x.2.1), none] [] z.2) (fun z P1 g1 g2 g3 => c_X12_groups_l104 hM x.2.1 z g2 g3 g1) (OK_bind hh) (fun x15 hh => ?_)
    refine A_blk hM.1 1 (lv1 := [some (aR 150), none, none, some (aI x15.1), some (aI (x.2.1 + 1)), none]) (s1 := []) (h1 := x15.2) rfl ?_
    refine A_go hM.1 rfl rfl ?_
    exact hin (x15.1, x.2.1 + 1, x15.2) hh

set_option maxRecDepth 20000 in
set_option maxHeartbeats 4000000 in
theorem c_X12_groups_j152 {k0 : K0} {G : Gx} {Qp : Option AV → Fx → Hp → Prop} (hM : MB (KM k0 0 0 Qp) G M_X12_groups 4) (v3 : Int) (v4 : Int) (v5 : Int) (h : Hp)   {P : ((Int × Int × Hp) ⊕ (Int × Hp)) → Prop} (hin : ∀ y : Int × Int × Hp, P (.inl y) → ATk (KM k0 0 0 Qp) FN 0 0 M_X12_groups 134 [some (aR 150), none, none, some (aI y.1), some (aI v4), some (aI y.2.1)] [] y.2.2) (hout0 : ∀ y : Int × Hp, P (.inr y) → ATk (KM k0 0 0 Qp) FN 0 0 M_X12_groups 154 [some (aR 150), none, none, some (aI y.1), some (aI v4), none] [] y.2) (hh : OK (X12_groups_j152 v3 v4 v5 h) P) : ATk (KM k0 0 0 Qp) FN 0 0 M_X12_groups 152 [some (aR 150), none, none, some (aI v3), some (aI v4), some (aI v5)] [] h := by
  unfold X12_groups_j152 at hh
  refine A_blk hM.1 1 (lv1 := [some (aR 150), none, none, some (aI v3), some (aI v4), some (aI (v5 + 1))]) (s1 := []) (h1 := h) rfl ?_
  refine A_go hM.1 rfl rfl ?_
  exact hin (v3, v5 + 1, h) hh

set_option maxRecDepth 20000 in
set_option maxHeartbeats 4000000 in
theorem c_X12_groups_l134 {k0 : K0} {G : Gx} {Qp : Option AV → Fx → Hp → Prop} (hM : MB (KM k0 0 0 Qp) G M_X12_groups 4) (v4 : Int) (x : Int × Int × Hp)   {P : ((Int × Int × Hp) ⊕ (Int × Hp)) → Prop} (hin : ∀ y : Int × Int × Hp, P (.inl y) → ATk (KM k0 0 0 Qp) FN 0 0 M_X12_groups 134 [some (aR 150), none, none, some (aI y.1), some (aI v4), some (aI y.2.1)] [] y.2.2) (hout0 : ∀ y : Int × Hp, P (.inr y) → ATk (KM k0 0 0 Qp) FN 0 0 M_X12_groups 154 [some (aR 150), none, none, some (aI y.1), some (aI v4), none] [] y.2) (hh : OK (X12_groups_l134 v4 x) P) : ATk (KM k0 0 0 Qp) FN 0 0 M_X12_groups 134 [some (aR 150), none, none, some (aI x.1), some (aI v4), some (aI x.2.1)] [] x.2.2 := by
  unfold X12_groups_l134 at hh
  refine A_blk hM.1 3 (lv1 := [some (aR 150), none, none, some (aI x.1), some (aI v4), some (aI x.2.1)]) (s1 := [aI (x.2.2 150 4), aI x.2.1]) (h1 := x.2.2) rfl ?_
  refine A_icmp hM.1 rfl rfl (fun hc => ?_) (fun hc => ?_)
  · replace hh := OK_t hh hc
    refine A_mask [true, true, true, true, true, false] (lv1 := [some (aR 150), none, none, some (aI x.1), some (aI v4), none]) rfl ?_
    exact hout0 (x.1, x.2.2) hh
  · replace hh := OK_f hh hc
    refine A_blk hM.1 3 (lv1 := [some (aR 150), none, none, some (aI x.1), some (aI v4), some (aI x.2.1)]) (s1 := [aI x.2.1, aR 186]) (h1 := x.2.2) rfl ?_
    obtain ⟨g17, hh⟩ := OK_g hh
    refine A_ald hM.1 rfl (Or.inl ⟨rfl, rfl⟩) rfl (by decide) rfl g17 ?_
    refine A_blk hM.1 2 (lv1 := [some (aR 150), none, none, some (aI x.1), some (aI v4), some (aI x.2.1)]) (s1 := [aI (and32 (x.2.2 186 ((w32 x.2.1).toNat)) x.1)]) (h1 := x.2.2) rfl ?_
    refine A_ifc hM.1 rfl rfl (fun hc => ?_) (fun hc => ?_)
    · replace hh := OK_t hh hc
      exact c_X12_groups_j152 hM x.1 v4 x.2.1 x.2.2 hin hout0 hh
    · replace hh := OK_f hh hc
      refine A_blk hM.1 4 (lv1 := [some (aR 150), none, none, some (aI x.1), some (aI v4), some (aI x.2.1)]) (s1 := [aI x.2.1, aR 186, aI x.1]) (h1 := x.2.2) rfl ?_
      obtain ⟨g18, hh⟩ := OK_g hh
      refine A_ald hM.1 rfl (Or.inl ⟨rfl, rfl⟩) rfl (by decide) rfl g18 ?_
      refine A_blk hM.1 2 (lv1 := [some (aR 150), none, none, some (aI (or32 x.1 (x.2.2 186 ((w32 x.2.1).toNat)))), some (aI v4), some (aI x.2.1)]) (s1 := []) (h1 := x.2.2) rfl ?_
      exact c_X12_groups_j152 hM (or32 x.1 (x.2.2 186 ((w32 x.2.1).toNat))) v4 x.2.1 x.2.2 hin hout0 hh

set_option maxRecDepth 20000 in
set_option maxHeartbeats 4000000 in
theorem c_X12_groups_l128 {k0 : K0} {G : Gx} {Qp : Option AV → Fx → Hp → Prop} (hM : MB (KM k0 0 0 Qp) G M_X12_groups 4) (x : Int × Int × Hp)   {P : ((Int × Int × Hp) ⊕ (Int × Hp)) → Prop} (hin : ∀ y : Int × Int × Hp, P (.inl y) → ATk (KM k0 0 0 Qp) FN 0 0 M_X12_groups 128 [some (aR 150), none, none, some (aI y.1), some (aI y.2.1), none] [] y.2.2) (hout0 : ∀ y : Int × Hp, P (.inr y) → ATk (KM k0 0 0 Qp) FN 0 0 M_X12_groups 156 [none, none, none, some (aI y.1), none, none] [] y.2) (hh : OK (X12_groups_l128 x) P) : ATk (KM k0 0 0 Qp) FN 0 0 M_X12_groups 128 [some (aR 150), none, none, some (aI x.1), some (aI x.2.1), none] [] x.2.2 := by
  unfold X12_groups_l128 at hh
  refine A_blk hM.1 3 (lv1 := [some (aR 150), none, none, some (aI x.1), some (aI x.2.1), none]) (s1 := [aI (x.2.2 150 4), aI x.2.1]) (h1 := x.2.2) rfl ?_
  refine A_icmp hM.1 rfl rfl (fun hc => ?_) (fun hc => ?_)
  · replace hh := OK_t hh hc
    refine A_mask [false, true, true, true, false, true] (lv1 := [none, none, none, some (aI x.1), none, none]) rfl ?_
    exact hout0 (x.1, x.2.2) hh
  · replace hh := OK_f hh hc
    refine A_blk hM.1 2 (lv1 := [some (aR 150), none, none, some (aI x.1), some (aI x.2.1), some (aI 0)]) (s1 := []) (h1 := x.2.2) rfl ?_
    refine iter_ok (s := (x.1, 0, x.2.2)) (Gp := fun z => ATk (KM k0 0 0 Qp) FN 0 0 M_X12_groups 134 [some (aR 150), none, none, some (aI z.1), some (aI x.2.1), some (aI z.2.1)] [] z.2.2) (E := fun z => ATk (KM k0 0 0 Qp) FN 0 0 M_X12_groups 154 [some (aR 150), none, none, some (aI z.1), some (aI x.2.1), none] [] z.2) (fun z P1 g1 g2 g3 => c_X12_groups_l134 hM x.2.1 z g2 g3 g1) (OK_bind hh) (fun x19 hh => ?_)
    refine A_blk hM.1 1 (lv1 := [some (aR 150), none, none, some (aI x19.1), some (aI (x.2.1 + 1)), none]) (s1 := []) (h1 := x19.2) rfl ?_
    refine A_go hM.1 rfl rfl ?_
    exact hin (x19.1, x.2.1 + 1, x19.2) hh

set_option maxRecDepth 20000 in
set_option maxHeartbeats 4000000 in
theorem c_X12_groups {k0 : K0} {G : Gx} {Qp : Option AV → Fx → Hp → Prop} (hM : MB (KM k0 0 0 Qp) G M_X12_groups 4) (v1 : Int) (v2 : Int) (h : Hp)   {P : (Int × Hp) → Prop} (hq : ∀ z : Int × Hp, P z → Qp (some (aI z.1)) FN z.2) (hh : OK (X12_groups v1 v2 h) P) : ATk (KM k0 0 0 Qp) FN 0 0 M_X12_groups 0 [some (aR 150), some (aI v1), some (aI v2), none, none, none] [] h := by
  unfold X12_groups at hh
  refine A_blk hM.1 2 (lv1 := [some (aR 150), some (aI v1), some (aI v2), none, none, none]) (s1 := [aI v1, aR 150]) (h1 := h) rfl ?_
  refine A_callV hM rfl rfl (mem_GW 1922 (by decide +kernel) rfl) mi_X12_isWriter (As := [aI v1]) (rest := []) (ct_X12_isWriter v1 h (OK_bind hh)) (by decide) ⟨Nat.zero_le _, Nat.zero_le _⟩ rfl rfl (Nat.le_of_ble_eq_true rfl) (by decide) rfl (by decide) rfl (fun r F' h' hq1 => ?_)
  obtain ⟨rfl, r1, rfl, e9, hh⟩ := hq1
  subst h'
  refine A_ifc hM.1 rfl rfl (fun hc => ?_) (fun hc => ?_)
  · replace hh := OK_t hh hc
    refine A_blk hM.1 1 (lv1 := [some (aR 150), some (aI v1), some (aI v2), none, none, none]) (s1 := [aI (-1)]) (h1 := h) rfl ?_
    exact A_reti hM.1 rfl rfl rfl (hq ((-1), h) hh)
  · replace hh := OK_f hh hc
    refine A_blk hM.1 4 (lv1 := [some (aR 150), some (aI v1), some (aI v2), none, none, none]) (s1 := [aL 1000, aL 0, aL (w32 v2)]) (h1 := h) rfl ?_
    refine A_callS hM rfl rfl (mem_GW 1879 (by decide +kernel) rfl) mi_X12_lies ms_X12_lies (As := [aL (w32 v2), aL 0, aL 1000]) (rest := []) (ct_X12_lies (w32 v2) 0 1000 h (OK_bind hh)) (by decide) ⟨Nat.zero_le _, Nat.zero_le _⟩ rfl rfl (Nat.le_of_ble_eq_true rfl) (fun r F' h' hq1 => ?_)
    obtain ⟨rfl, r2, rfl, e9, hh⟩ := hq1
    subst h'
    refine A_ifc hM.1 rfl rfl (fun hc => ?_) (fun hc => ?_)
    · replace hh := OK_t hh hc
      refine A_blk hM.1 2 (lv1 := [some (aR 150), some (aI v1), some (aI v2), some (aI 0), none, none]) (s1 := []) (h1 := h) rfl ?_
      refine iter_ok (s := (0, h)) (Gp := fun z => ATk (KM k0 0 0 Qp) FN 0 0 M_X12_groups 14 [some (aR 150), some (aI v1), some (aI v2), some (aI z.1), none, none] [] z.2) (E := fun z => ATk (KM k0 0 0 Qp) FN 0 0 M_X12_groups 27 [some (aR 150), some (aI v1), some (aI v2), none, none, none] [] z) (fun z P1 g1 g2 g3 => c_X12_groups_l14 hM v1 v2 z g2 g3 g1) (OK_bind hh) (fun x4 hh => ?_)
      refine A_blk hM.1 2 (lv1 := [some (aR 150), some (aI v1), some (aI v2), some (aI 0), none, none]) (s1 := []) (h1 := x4) rfl ?_
      refine iter_ok (s := (0, x4)) (Gp := fun z => ATk (KM k0 0 0 Qp) FN 0 0 M_X12_groups 29 [some (aR 150), some (aI v1), some (aI v2), some (aI z.1), none, none] [] z.2) (E := fun z => ATk (KM k0 0 0 Qp) FN 0 0 M_X12_groups 92 [some (aR 150), some (aI v1), none, none, none, none] [] z) (fun z P1 g1 g2 g3 => c_X12_groups_l29 hM v1 v2 z g2 g3 g1) (OK_bind hh) (fun x12 hh => ?_)
      refine A_blk hM.1 6 (lv1 := [some (aR 150), some (aI v1), none, some (aI (shl32 1 v1)), some (aI 0), none]) (s1 := []) (h1 := x12) rfl ?_
      refine A_mask [true, false, true, true, true, true] (lv1 := [some (aR 150), none, none, some (aI (shl32 1 v1)), some (aI 0), none]) rfl ?_
      refine iter_ok (s := (shl32 1 v1, 0, x12)) (Gp := fun z => ATk (KM k0 0 0 Qp) FN 0 0 M_X12_groups 98 [some (aR 150), none, none, some (aI z.1), some (aI z.2.1), none] [] z.2.2) (E := fun z => ATk (KM k0 0 0 Qp) FN 0 0 M_X12_groups 126 [some (aR 150), none, none, some (aI z.1), none, none] [] z.2) (fun z P1 g1 g2 g3 => c_X12_groups_l98 hM  z g2 g3 g1) (OK_bind hh) (fun x16 hh => ?_)
      refine A_blk hM.1 2 (lv1 := [some (aR 150), none, none, some (aI x16.1), some (aI 0), none]) (s1 := []) (h1 := x16.2) rfl ?_
      refine iter_ok (s := (x16.1, 0, x16.2)) (Gp := fun z => ATk (KM k0 0 0 Qp) FN 0 0 M_X12_groups 128 [some (aR 150), none, none, some (aI z.1), some (aI z.2.1), none] [] z.2.2) (E := fun z => ATk (KM k0 0 0 Qp) FN 0 0 M_X12_groups 156 [none, none, none, some (aI z.1), none, none] [] z.2) (fun z P1 g1 g2 g3 => c_X12_groups_l128 hM  z g2 g3 g1) (OK_bind hh) (fun x20 hh => ?_)
      refine A_blk hM.1 1 (lv1 := [none, none, none, some (aI x20.1), none, none]) (s1 := [aI x20.1]) (h1 := x20.2) rfl ?_
      exact A_reti hM.1 rfl rfl rfl (hq (x20.1, x20.2) hh)
    · replace hh := OK_f hh hc
      refine A_blk hM.1 1 (lv1 := [some (aR 150), some (aI v1), some (aI v2), none, none, none]) (s1 := [aI (-1)]) (h1 := h) rfl ?_
      exact A_reti hM.1 rfl rfl rfl (hq ((-1), h) hh)

set_option maxRecDepth 20000 in
set_option maxHeartbeats 4000000 in
theorem ct_X12_groups {G : Gx} (v1 : Int) (v2 : Int) (h : Hp)   {P : (Int × Hp) → Prop} (hh : OK (X12_groups v1 v2 h) P) : CT G yX12_groups M_X12_groups 4 0 0 FN h [aR 150, aI v1, aI v2] (fun r F' h' => F' = FN ∧ ∃ z, r = some (aI z.1) ∧ h' = z.2 ∧ P z) :=
  CT.of (by decide +kernel) rfl (Nat.le_of_ble_eq_true rfl) k_X12_groups fun k0 _ _ hM => c_X12_groups hM v1 v2 h (fun z hz => ⟨rfl, z, rfl, rfl, hz⟩) hh

