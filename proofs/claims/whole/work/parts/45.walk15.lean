set_option linter.all false
theorem mi_X12_nearness : MIv yX12_nearness M_X12_nearness 2 := ⟨⟨(mem_GW 2122 (by decide +kernel) rfl), (mem_GW 135 (by decide +kernel) rfl), by decide +kernel, by decide +kernel, by decide +kernel, by decide⟩, (mem_GW 2120 (by decide +kernel) rfl), (mem_GW 2121 (by decide +kernel) rfl)⟩
set_option maxRecDepth 20000 in
set_option maxHeartbeats 4000000 in
theorem c_X12_nearness_j70 {k0 : K0} {G : Gx} {Qp : Option AV → Fx → Hp → Prop} (hM : MB (KM k0 0 0 Qp) G M_X12_nearness 4) (v1 : Int) (v2 : Int) (v3 : Int) (v4 : Int) (v5 : Int) (v6 : Int) (v7 : Int) (h : Hp)   {P : ((Int × Int × Int × Int × Int × Hp) ⊕ (Int × Int × Int × Int × Hp)) → Prop} (hin : ∀ y : Int × Int × Int × Int × Int × Hp, P (.inl y) → ATk (KM k0 0 0 Qp) FN 0 0 M_X12_nearness 22 [some (aR 150), some (aI v1), some (aI v2), some (aI y.1), some (aI y.2.1), some (aI y.2.2.1), some (aI y.2.2.2.1), some (aI y.2.2.2.2.1), none] [] y.2.2.2.2.2) (hout0 : ∀ y : Int × Int × Int × Int × Hp, P (.inr y) → ATk (KM k0 0 0 Qp) FN 0 0 M_X12_nearness 72 [none, none, some (aI v2), some (aI y.1), some (aI y.2.1), some (aI y.2.2.1), some (aI y.2.2.2.1), none, none] [] y.2.2.2.2) (hh : OK (X12_nearness_j70 v1 v2 v3 v4 v5 v6 v7 h) P) : ATk (KM k0 0 0 Qp) FN 0 0 M_X12_nearness 70 [some (aR 150), some (aI v1), some (aI v2), some (aI v3), some (aI v4), some (aI v5), some (aI v6), some (aI v7), none] [] h := by
  unfold X12_nearness_j70 at hh
  refine A_blk hM.1 1 (lv1 := [some (aR 150), some (aI v1), some (aI v2), some (aI v3), some (aI v4), some (aI v5), some (aI v6), some (aI (v7 + 1)), none]) (s1 := []) (h1 := h) rfl ?_
  refine A_go hM.1 rfl rfl ?_
  exact hin (v3, v4, v5, v6, v7 + 1, h) hh

set_option maxRecDepth 20000 in
set_option maxHeartbeats 4000000 in
theorem c_X12_nearness_j64 {k0 : K0} {G : Gx} {Qp : Option AV → Fx → Hp → Prop} (hM : MB (KM k0 0 0 Qp) G M_X12_nearness 4) (v1 : Int) (v2 : Int) (v3 : Int) (v5 : Int) (v6 : Int) (v7 : Int) (v8 : Int) (s0 : Int) (h : Hp)   {P : ((Int × Int × Int × Int × Int × Hp) ⊕ (Int × Int × Int × Int × Hp)) → Prop} (hin : ∀ y : Int × Int × Int × Int × Int × Hp, P (.inl y) → ATk (KM k0 0 0 Qp) FN 0 0 M_X12_nearness 22 [some (aR 150), some (aI v1), some (aI v2), some (aI y.1), some (aI y.2.1), some (aI y.2.2.1), some (aI y.2.2.2.1), some (aI y.2.2.2.2.1), none] [] y.2.2.2.2.2) (hout0 : ∀ y : Int × Int × Int × Int × Hp, P (.inr y) → ATk (KM k0 0 0 Qp) FN 0 0 M_X12_nearness 72 [none, none, some (aI v2), some (aI y.1), some (aI y.2.1), some (aI y.2.2.1), some (aI y.2.2.2.1), none, none] [] y.2.2.2.2) (hh : OK (X12_nearness_j64 v1 v2 v3 v5 v6 v7 v8 s0 h) P) : ATk (KM k0 0 0 Qp) FN 0 0 M_X12_nearness 64 [some (aR 150), some (aI v1), some (aI v2), some (aI v3), none, some (aI v5), some (aI v6), some (aI v7), some (aI v8)] [aI s0] h := by
  unfold X12_nearness_j64 at hh
  refine A_blk hM.1 6 (lv1 := [some (aR 150), some (aI v1), some (aI v2), some (aI v3), some (aI s0), some (aI (v5 + v8)), some (aI (v6 + 1)), some (aI v7), some (aI v8)]) (s1 := []) (h1 := h) rfl ?_
  refine A_mask [true, true, true, true, true, true, true, true, false] (lv1 := [some (aR 150), some (aI v1), some (aI v2), some (aI v3), some (aI s0), some (aI (v5 + v8)), some (aI (v6 + 1)), some (aI v7), none]) rfl ?_
  exact c_X12_nearness_j70 hM v1 v2 v3 s0 (v5 + v8) (v6 + 1) v7 h hin hout0 hh

set_option maxRecDepth 20000 in
set_option maxHeartbeats 4000000 in
theorem c_X12_nearness_j57 {k0 : K0} {G : Gx} {Qp : Option AV → Fx → Hp → Prop} (hM : MB (KM k0 0 0 Qp) G M_X12_nearness 4) (v1 : Int) (v2 : Int) (v4 : Int) (v5 : Int) (v6 : Int) (v7 : Int) (v8 : Int) (s0 : Int) (h : Hp)   {P : ((Int × Int × Int × Int × Int × Hp) ⊕ (Int × Int × Int × Int × Hp)) → Prop} (hin : ∀ y : Int × Int × Int × Int × Int × Hp, P (.inl y) → ATk (KM k0 0 0 Qp) FN 0 0 M_X12_nearness 22 [some (aR 150), some (aI v1), some (aI v2), some (aI y.1), some (aI y.2.1), some (aI y.2.2.1), some (aI y.2.2.2.1), some (aI y.2.2.2.2.1), none] [] y.2.2.2.2.2) (hout0 : ∀ y : Int × Int × Int × Int × Hp, P (.inr y) → ATk (KM k0 0 0 Qp) FN 0 0 M_X12_nearness 72 [none, none, some (aI v2), some (aI y.1), some (aI y.2.1), some (aI y.2.2.1), some (aI y.2.2.2.1), none, none] [] y.2.2.2.2) (hh : OK (X12_nearness_j57 v1 v2 v4 v5 v6 v7 v8 s0 h) P) : ATk (KM k0 0 0 Qp) FN 0 0 M_X12_nearness 57 [some (aR 150), some (aI v1), some (aI v2), none, some (aI v4), some (aI v5), some (aI v6), some (aI v7), some (aI v8)] [aI s0] h := by
  unfold X12_nearness_j57 at hh
  refine A_blk hM.1 3 (lv1 := [some (aR 150), some (aI v1), some (aI v2), some (aI s0), some (aI v4), some (aI v5), some (aI v6), some (aI v7), some (aI v8)]) (s1 := [aI v4, aI v8]) (h1 := h) rfl ?_
  refine A_icmp hM.1 rfl rfl (fun hc => ?_) (fun hc => ?_)
  · replace hh := OK_t hh hc
    refine A_blk hM.1 1 (lv1 := [some (aR 150), some (aI v1), some (aI v2), some (aI s0), some (aI v4), some (aI v5), some (aI v6), some (aI v7), some (aI v8)]) (s1 := [aI v4]) (h1 := h) rfl ?_
    refine A_mask [true, true, true, true, false, true, true, true, true] (lv1 := [some (aR 150), some (aI v1), some (aI v2), some (aI s0), none, some (aI v5), some (aI v6), some (aI v7), some (aI v8)]) rfl ?_
    exact c_X12_nearness_j64 hM v1 v2 s0 v5 v6 v7 v8 v4 h hin hout0 hh
  · replace hh := OK_f hh hc
    refine A_blk hM.1 1 (lv1 := [some (aR 150), some (aI v1), some (aI v2), some (aI s0), some (aI v4), some (aI v5), some (aI v6), some (aI v7), some (aI v8)]) (s1 := [aI v8]) (h1 := h) rfl ?_
    refine A_go hM.1 rfl rfl ?_
    refine A_mask [true, true, true, true, false, true, true, true, true] (lv1 := [some (aR 150), some (aI v1), some (aI v2), some (aI s0), none, some (aI v5), some (aI v6), some (aI v7), some (aI v8)]) rfl ?_
    exact c_X12_nearness_j64 hM v1 v2 s0 v5 v6 v7 v8 v8 h hin hout0 hh

set_option maxRecDepth 20000 in
set_option maxHeartbeats 4000000 in
theorem c_X12_nearness_l22 {k0 : K0} {G : Gx} {Qp : Option AV → Fx → Hp → Prop} (hM : MB (KM k0 0 0 Qp) G M_X12_nearness 4) (v1 : Int) (v2 : Int) (x : Int × Int × Int × Int × Int × Hp)   {P : ((Int × Int × Int × Int × Int × Hp) ⊕ (Int × Int × Int × Int × Hp)) → Prop} (hin : ∀ y : Int × Int × Int × Int × Int × Hp, P (.inl y) → ATk (KM k0 0 0 Qp) FN 0 0 M_X12_nearness 22 [some (aR 150), some (aI v1), some (aI v2), some (aI y.1), some (aI y.2.1), some (aI y.2.2.1), some (aI y.2.2.2.1), some (aI y.2.2.2.2.1), none] [] y.2.2.2.2.2) (hout0 : ∀ y : Int × Int × Int × Int × Hp, P (.inr y) → ATk (KM k0 0 0 Qp) FN 0 0 M_X12_nearness 72 [none, none, some (aI v2), some (aI y.1), some (aI y.2.1), some (aI y.2.2.1), some (aI y.2.2.2.1), none, none] [] y.2.2.2.2) (hh : OK (X12_nearness_l22 v1 v2 x) P) : ATk (KM k0 0 0 Qp) FN 0 0 M_X12_nearness 22 [some (aR 150), some (aI v1), some (aI v2), some (aI x.1), some (aI x.2.1), some (aI x.2.2.1), some (aI x.2.2.2.1), some (aI x.2.2.2.2.1), none] [] x.2.2.2.2.2 := by
  unfold X12_nearness_l22 at hh
  refine A_blk hM.1 3 (lv1 := [some (aR 150), some (aI v1), some (aI v2), some (aI x.1), some (aI x.2.1), some (aI x.2.2.1), some (aI x.2.2.2.1), some (aI x.2.2.2.2.1), none]) (s1 := [aI (x.2.2.2.2.2 150 5), aI x.2.2.2.2.1]) (h1 := x.2.2.2.2.2) rfl ?_
  refine A_icmp hM.1 rfl rfl (fun hc => ?_) (fun hc => ?_)
  · replace hh := OK_t hh hc
    refine A_mask [false, false, true, true, true, true, true, false, true] (lv1 := [none, none, some (aI v2), some (aI x.1), some (aI x.2.1), some (aI x.2.2.1), some (aI x.2.2.2.1), none, none]) rfl ?_
    exact hout0 (x.1, x.2.1, x.2.2.1, x.2.2.2.1, x.2.2.2.2.2) hh
  · replace hh := OK_f hh hc
    refine A_blk hM.1 3 (lv1 := [some (aR 150), some (aI v1), some (aI v2), some (aI x.1), some (aI x.2.1), some (aI x.2.2.1), some (aI x.2.2.2.1), some (aI x.2.2.2.2.1), none]) (s1 := [aI x.2.2.2.2.1, aR 160]) (h1 := x.2.2.2.2.2) rfl ?_
    obtain ⟨g3, hh⟩ := OK_g hh
    refine A_ald hM.1 rfl (Or.inl ⟨rfl, rfl⟩) rfl (by decide) rfl g3 ?_
    refine A_blk hM.1 1 (lv1 := [some (aR 150), some (aI v1), some (aI v2), some (aI x.1), some (aI x.2.1), some (aI x.2.2.1), some (aI x.2.2.2.1), some (aI x.2.2.2.2.1), none]) (s1 := [aI v1, aI (x.2.2.2.2.2 160 ((w32 x.2.2.2.2.1).toNat))]) (h1 := x.2.2.2.2.2) rfl ?_
    refine A_icmp hM.1 rfl rfl (fun hc => ?_) (fun hc => ?_)
    · replace hh := OK_t hh hc
      exact c_X12_nearness_j70 hM v1 v2 x.1 x.2.1 x.2.2.1 x.2.2.2.1 x.2.2.2.2.1 x.2.2.2.2.2 hin hout0 hh
    · replace hh := OK_f hh hc
      refine A_blk hM.1 4 (lv1 := [some (aR 150), some (aI v1), some (aI v2), some (aI x.1), some (aI x.2.1), some (aI x.2.2.1), some (aI x.2.2.2.1), some (aI x.2.2.2.2.1), none]) (s1 := [aI x.2.2.2.2.1, aR 161, aR 150]) (h1 := x.2.2.2.2.2) rfl ?_
      obtain ⟨g4, hh⟩ := OK_g hh
      refine A_ald hM.1 rfl (Or.inl ⟨rfl, rfl⟩) rfl (by decide) rfl g4 ?_
      refine A_callV hM rfl rfl (mem_GW 2050 (by decide +kernel) rfl) mi_X12_isLeft (As := [aI (x.2.2.2.2.2 161 ((w32 x.2.2.2.2.1).toNat))]) (rest := []) (ct_X12_isLeft (x.2.2.2.2.2 161 ((w32 x.2.2.2.2.1).toNat)) x.2.2.2.2.2 (OK_bind hh)) (by decide) ⟨Nat.zero_le _, Nat.zero_le _⟩ rfl rfl (Nat.le_of_ble_eq_true rfl) (by decide) rfl (by decide) rfl (fun r F' h' hq1 => ?_)
      obtain ⟨rfl, r5, rfl, e9, hh⟩ := hq1
      subst h'
      refine A_ifc hM.1 rfl rfl (fun hc => ?_) (fun hc => ?_)
      · replace hh := OK_t hh hc
        refine A_blk hM.1 5 (lv1 := [some (aR 150), some (aI v1), some (aI v2), some (aI x.1), some (aI x.2.1), some (aI x.2.2.1), some (aI x.2.2.2.1), some (aI x.2.2.2.2.1), none]) (s1 := [aI x.2.2.2.2.1, aR 161, aI x.2.2.2.2.1, aR 150]) (h1 := x.2.2.2.2.2) rfl ?_
        obtain ⟨g6, hh⟩ := OK_g hh
        refine A_ald hM.1 rfl (Or.inl ⟨rfl, rfl⟩) rfl (by decide) rfl g6 ?_
        refine A_callV hM rfl rfl (mem_GW 2111 (by decide +kernel) rfl) mi_X12_nears (As := [aI x.2.2.2.2.1, aI (x.2.2.2.2.2 161 ((w32 x.2.2.2.2.1).toNat))]) (rest := []) (ct_X12_nears x.2.2.2.2.1 (x.2.2.2.2.2 161 ((w32 x.2.2.2.2.1).toNat)) x.2.2.2.2.2 (OK_bind hh)) (by decide) ⟨Nat.zero_le _, Nat.zero_le _⟩ rfl rfl (Nat.le_of_ble_eq_true rfl) (by decide) rfl (by decide) rfl (fun r F' h' hq1 => ?_)
        obtain ⟨rfl, rfl, hh⟩ := hq1
        obtain ⟨r7, rfl⟩ : ∃ z, z = h' := ⟨_, rfl⟩
        refine A_blk hM.1 2 (lv1 := [some (aR 150), some (aI v1), some (aI v2), some (aI x.1), some (aI x.2.1), some (aI x.2.2.1), some (aI x.2.2.2.1), some (aI x.2.2.2.2.1), none]) (s1 := [aI x.2.2.2.2.1, aR 150]) (h1 := r7) rfl ?_
        refine A_callV hM rfl rfl (mem_GW 2115 (by decide +kernel) rfl) mi_X12_nearnessNow (As := [aI x.2.2.2.2.1]) (rest := []) (ct_X12_nearnessNow x.2.2.2.2.1 r7 (OK_bind hh)) (by decide) ⟨Nat.zero_le _, Nat.zero_le _⟩ rfl rfl (Nat.le_of_ble_eq_true rfl) (by decide) rfl (by decide) rfl (fun r F' h' hq1 => ?_)
        obtain ⟨rfl, r8, rfl, e9, hh⟩ := hq1
        subst h'
        refine A_blk hM.1 3 (lv1 := [some (aR 150), some (aI v1), some (aI v2), some (aI x.1), some (aI x.2.1), some (aI x.2.2.1), some (aI x.2.2.2.1), some (aI x.2.2.2.2.1), some (aI r8)]) (s1 := [aI x.1, aI r8]) (h1 := r7) rfl ?_
        refine A_icmp hM.1 rfl rfl (fun hc => ?_) (fun hc => ?_)
        · replace hh := OK_t hh hc
          refine A_blk hM.1 1 (lv1 := [some (aR 150), some (aI v1), some (aI v2), some (aI x.1), some (aI x.2.1), some (aI x.2.2.1), some (aI x.2.2.2.1), some (aI x.2.2.2.2.1), some (aI r8)]) (s1 := [aI x.1]) (h1 := r7) rfl ?_
          refine A_mask [true, true, true, false, true, true, true, true, true] (lv1 := [some (aR 150), some (aI v1), some (aI v2), none, some (aI x.2.1), some (aI x.2.2.1), some (aI x.2.2.2.1), some (aI x.2.2.2.2.1), some (aI r8)]) rfl ?_
          exact c_X12_nearness_j57 hM v1 v2 x.2.1 x.2.2.1 x.2.2.2.1 x.2.2.2.2.1 r8 x.1 r7 hin hout0 hh
        · replace hh := OK_f hh hc
          refine A_blk hM.1 1 (lv1 := [some (aR 150), some (aI v1), some (aI v2), some (aI x.1), some (aI x.2.1), some (aI x.2.2.1), some (aI x.2.2.2.1), some (aI x.2.2.2.2.1), some (aI r8)]) (s1 := [aI r8]) (h1 := r7) rfl ?_
          refine A_go hM.1 rfl rfl ?_
          refine A_mask [true, true, true, false, true, true, true, true, true] (lv1 := [some (aR 150), some (aI v1), some (aI v2), none, some (aI x.2.1), some (aI x.2.2.1), some (aI x.2.2.2.1), some (aI x.2.2.2.2.1), some (aI r8)]) rfl ?_
          exact c_X12_nearness_j57 hM v1 v2 x.2.1 x.2.2.1 x.2.2.2.1 x.2.2.2.2.1 r8 r8 r7 hin hout0 hh
      · replace hh := OK_f hh hc
        refine A_go hM.1 rfl rfl ?_
        exact c_X12_nearness_j70 hM v1 v2 x.1 x.2.1 x.2.2.1 x.2.2.2.1 x.2.2.2.2.1 x.2.2.2.2.2 hin hout0 hh

set_option maxRecDepth 20000 in
set_option maxHeartbeats 4000000 in
theorem c_X12_nearness {k0 : K0} {G : Gx} {Qp : Option AV → Fx → Hp → Prop} (hM : MB (KM k0 0 0 Qp) G M_X12_nearness 4) (v1 : Int) (v2 : Int) (h : Hp)   {P : (Int × Hp) → Prop} (hq : ∀ z : Int × Hp, P z → Qp (some (aI z.1)) FN z.2) (hh : OK (X12_nearness v1 v2 h) P) : ATk (KM k0 0 0 Qp) FN 0 0 M_X12_nearness 0 [some (aR 150), some (aI v1), some (aI v2), none, none, none, none, none, none] [] h := by
  unfold X12_nearness at hh
  refine A_blk hM.1 2 (lv1 := [some (aR 150), some (aI v1), some (aI v2), none, none, none, none, none, none]) (s1 := [aI v1, aR 150]) (h1 := h) rfl ?_
  refine A_callV hM rfl rfl (mem_GW 1922 (by decide +kernel) rfl) mi_X12_isWriter (As := [aI v1]) (rest := []) (ct_X12_isWriter v1 h (OK_bind hh)) (by decide) ⟨Nat.zero_le _, Nat.zero_le _⟩ rfl rfl (Nat.le_of_ble_eq_true rfl) (by decide) rfl (by decide) rfl (fun r F' h' hq1 => ?_)
  obtain ⟨rfl, r1, rfl, e9, hh⟩ := hq1
  subst h'
  refine A_ifc hM.1 rfl rfl (fun hc => ?_) (fun hc => ?_)
  · replace hh := OK_t hh hc
    refine A_blk hM.1 1 (lv1 := [some (aR 150), some (aI v1), some (aI v2), none, none, none, none, none, none]) (s1 := [aI (-1)]) (h1 := h) rfl ?_
    exact A_reti hM.1 rfl rfl rfl (hq ((-1), h) hh)
  · replace hh := OK_f hh hc
    refine A_blk hM.1 4 (lv1 := [some (aR 150), some (aI v1), some (aI v2), none, none, none, none, none, none]) (s1 := [aL 3, aL 0, aL (w32 v2)]) (h1 := h) rfl ?_
    refine A_callS hM rfl rfl (mem_GW 1879 (by decide +kernel) rfl) mi_X12_lies ms_X12_lies (As := [aL (w32 v2), aL 0, aL 3]) (rest := []) (ct_X12_lies (w32 v2) 0 3 h (OK_bind hh)) (by decide) ⟨Nat.zero_le _, Nat.zero_le _⟩ rfl rfl (Nat.le_of_ble_eq_true rfl) (fun r F' h' hq1 => ?_)
    obtain ⟨rfl, r2, rfl, e9, hh⟩ := hq1
    subst h'
    refine A_ifc hM.1 rfl rfl (fun hc => ?_) (fun hc => ?_)
    · replace hh := OK_t hh hc
      refine A_blk hM.1 10 (lv1 := [some (aR 150), some (aI v1), some (aI v2), some (aI 1001), some (aI 0), some (aI 0), some (aI 0), some (aI 0), none]) (s1 := []) (h1 := h) rfl ?_
      refine iter_ok (s := (1001, 0, 0, 0, 0, h)) (Gp := fun z => ATk (KM k0 0 0 Qp) FN 0 0 M_X12_nearness 22 [some (aR 150), some (aI v1), some (aI v2), some (aI z.1), some (aI z.2.1), some (aI z.2.2.1), some (aI z.2.2.2.1), some (aI z.2.2.2.2.1), none] [] z.2.2.2.2.2) (E := fun z => ATk (KM k0 0 0 Qp) FN 0 0 M_X12_nearness 72 [none, none, some (aI v2), some (aI z.1), some (aI z.2.1), some (aI z.2.2.1), some (aI z.2.2.2.1), none, none] [] z.2.2.2.2) (fun z P1 g1 g2 g3 => c_X12_nearness_l22 hM v1 v2 z g2 g3 g1) (OK_bind hh) (fun x9 hh => ?_)
      refine A_blk hM.1 2 (lv1 := [none, none, some (aI v2), some (aI x9.1), some (aI x9.2.1), some (aI x9.2.2.1), some (aI x9.2.2.2.1), none, none]) (s1 := [aI 3, aI v2]) (h1 := x9.2.2.2.2) rfl ?_
      refine A_icmp hM.1 rfl rfl (fun hc => ?_) (fun hc => ?_)
      · replace hh := OK_t hh hc
        refine A_blk hM.1 1 (lv1 := [none, none, some (aI v2), some (aI x9.1), some (aI x9.2.1), some (aI x9.2.2.1), some (aI x9.2.2.2.1), none, none]) (s1 := [aI x9.2.2.2.1]) (h1 := x9.2.2.2.2) rfl ?_
        refine A_ifc hM.1 rfl rfl (fun hc => ?_) (fun hc => ?_)
        · replace hh := OK_t hh hc
          refine A_blk hM.1 1 (lv1 := [none, none, some (aI v2), some (aI x9.1), some (aI x9.2.1), some (aI x9.2.2.1), some (aI x9.2.2.2.1), none, none]) (s1 := [aI v2]) (h1 := x9.2.2.2.2) rfl ?_
          refine A_ifc hM.1 rfl rfl (fun hc => ?_) (fun hc => ?_)
          · replace hh := OK_t hh hc
            refine A_blk hM.1 2 (lv1 := [none, none, some (aI v2), some (aI x9.1), some (aI x9.2.1), some (aI x9.2.2.1), some (aI x9.2.2.2.1), none, none]) (s1 := [aI 1, aI v2]) (h1 := x9.2.2.2.2) rfl ?_
            refine A_icmp hM.1 rfl rfl (fun hc => ?_) (fun hc => ?_)
            · replace hh := OK_t hh hc
              refine A_blk hM.1 2 (lv1 := [none, none, some (aI v2), some (aI x9.1), some (aI x9.2.1), some (aI x9.2.2.1), some (aI x9.2.2.2.1), none, none]) (s1 := [aI x9.2.2.2.1, aI x9.2.2.1]) (h1 := x9.2.2.2.2) rfl ?_
              obtain ⟨g10, hh⟩ := OK_g hh
              refine A_idiv hM.1 rfl rfl g10 ?_
              exact A_reti hM.1 rfl rfl rfl (hq (div32 x9.2.2.1 x9.2.2.2.1, x9.2.2.2.2) hh)
            · replace hh := OK_f hh hc
              refine A_blk hM.1 1 (lv1 := [none, none, some (aI v2), some (aI x9.1), some (aI x9.2.1), some (aI x9.2.2.1), some (aI x9.2.2.2.1), none, none]) (s1 := [aI x9.2.1]) (h1 := x9.2.2.2.2) rfl ?_
              refine A_go hM.1 rfl rfl ?_
              exact A_reti hM.1 rfl rfl rfl (hq (x9.2.1, x9.2.2.2.2) hh)
          · replace hh := OK_f hh hc
            refine A_blk hM.1 1 (lv1 := [none, none, some (aI v2), some (aI x9.1), some (aI x9.2.1), some (aI x9.2.2.1), some (aI x9.2.2.2.1), none, none]) (s1 := [aI x9.1]) (h1 := x9.2.2.2.2) rfl ?_
            refine A_go hM.1 rfl rfl ?_
            exact A_reti hM.1 rfl rfl rfl (hq (x9.1, x9.2.2.2.2) hh)
        · replace hh := OK_f hh hc
          refine A_blk hM.1 1 (lv1 := [none, none, some (aI v2), some (aI x9.1), some (aI x9.2.1), some (aI x9.2.2.1), some (aI x9.2.2.2.1), none, none]) (s1 := [aI (-2)]) (h1 := x9.2.2.2.2) rfl ?_
          refine A_go hM.1 rfl rfl ?_
          exact A_reti hM.1 rfl rfl rfl (hq ((-2), x9.2.2.2.2) hh)
      · replace hh := OK_f hh hc
        refine A_blk hM.1 1 (lv1 := [none, none, some (aI v2), some (aI x9.1), some (aI x9.2.1), some (aI x9.2.2.1), some (aI x9.2.2.2.1), none, none]) (s1 := [aI x9.2.2.2.1]) (h1 := x9.2.2.2.2) rfl ?_
        refine A_go hM.1 rfl rfl ?_
        exact A_reti hM.1 rfl rfl rfl (hq (x9.2.2.2.1, x9.2.2.2.2) hh)
    · replace hh := OK_f hh hc
      refine A_blk hM.1 1 (lv1 := [some (aR 150), some (aI v1), some (aI v2), none, none, none, none, none, none]) (s1 := [aI (-1)]) (h1 := h) rfl ?_
      exact A_reti hM.1 rfl rfl rfl (hq ((-1), h) hh)

set_option maxRecDepth 20000 in
set_option maxHeartbeats 4000000 in
theorem ct_X12_nearness {G : Gx} (v1 : Int) (v2 : Int) (h : Hp)   {P : (Int × Hp) → Prop} (hh : OK (X12_nearness v1 v2 h) P) : CT G yX12_nearness M_X12_nearness 4 0 0 FN h [aR 150, aI v1, aI v2] (fun r F' h' => F' = FN ∧ ∃ z, r = some (aI z.1) ∧ h' = z.2 ∧ P z) :=
  CT.of (by decide +kernel) rfl (Nat.le_of_ble_eq_true rfl) k_X12_nearness fun k0 _ _ hM => c_X12_nearness hM v1 v2 h (fun z hz => ⟨rfl, z, rfl, rfl, hz⟩) hh

theorem mi_X12_same : MIv yX12_same M_X12_same 2 := ⟨⟨(mem_GW 2126 (by decide +kernel) rfl), (mem_GW 135 (by decide +kernel) rfl), by decide +kernel, by decide +kernel, by decide +kernel, by decide⟩, (mem_GW 2124 (by decide +kernel) rfl), (mem_GW 2125 (by decide +kernel) rfl)⟩
set_option maxRecDepth 20000 in
set_option maxHeartbeats 4000000 in
theorem c_X12_same_j32 {k0 : K0} {G : Gx} {Qp : Option AV → Fx → Hp → Prop} (hM : MB (KM k0 0 0 Qp) G M_X12_same 3) (v1 : Int) (v2 : Int) (v5 : Int) (s0 : Int) (s1 : Int) (h : Hp)   {P : ((Int × Int × Hp) ⊕ (Int × Hp)) → Prop} (hin : ∀ y : Int × Int × Hp, P (.inl y) → ATk (KM k0 0 0 Qp) FN 0 0 M_X12_same 16 [some (aR 150), some (aI v1), some (aI v2), some (aL y.1), none, some (aI y.2.1)] [] y.2.2) (hout0 : ∀ y : Int × Hp, P (.inr y) → ATk (KM k0 0 0 Qp) FN 0 0 M_X12_same 36 [none, none, none, some (aL y.1), none, none] [] y.2) (hh : OK (X12_same_j32 v1 v2 v5 s0 s1 h) P) : ATk (KM k0 0 0 Qp) FN 0 0 M_X12_same 32 [some (aR 150), some (aI v1), some (aI v2), none, none, some (aI v5)] [aL s1, aL s0] h := by
  unfold X12_same_j32 at hh
  refine A_blk hM.1 3 (lv1 := [some (aR 150), some (aI v1), some (aI v2), some (aL (or64 s0 s1)), none, some (aI (v5 + 1))]) (s1 := []) (h1 := h) rfl ?_
  refine A_go hM.1 rfl rfl ?_
  exact hin (or64 s0 s1, v5 + 1, h) hh

set_option maxRecDepth 20000 in
set_option maxHeartbeats 4000000 in
theorem c_X12_same_l16 {k0 : K0} {G : Gx} {Qp : Option AV → Fx → Hp → Prop} (hM : MB (KM k0 0 0 Qp) G M_X12_same 3) (v1 : Int) (v2 : Int) (x : Int × Int × Hp)   {P : ((Int × Int × Hp) ⊕ (Int × Hp)) → Prop} (hin : ∀ y : Int × Int × Hp, P (.inl y) → ATk (KM k0 0 0 Qp) FN 0 0 M_X12_same 16 [some (aR 150), some (aI v1), some (aI v2), some (aL y.1), none, some (aI y.2.1)] [] y.2.2) (hout0 : ∀ y : Int × Hp, P (.inr y) → ATk (KM k0 0 0 Qp) FN 0 0 M_X12_same 36 [none, none, none, some (aL y.1), none, none] [] y.2) (hh : OK (X12_same_l16 v1 v2 x) P) : ATk (KM k0 0 0 Qp) FN 0 0 M_X12_same 16 [some (aR 150), some (aI v1), some (aI v2), some (aL x.1), none, some (aI x.2.1)] [] x.2.2 := by
  unfold X12_same_l16 at hh
  refine A_blk hM.1 3 (lv1 := [some (aR 150), some (aI v1), some (aI v2), some (aL x.1), none, some (aI x.2.1)]) (s1 := [aI (x.2.2 150 5), aI x.2.1]) (h1 := x.2.2) rfl ?_
  refine A_icmp hM.1 rfl rfl (fun hc => ?_) (fun hc => ?_)
  · replace hh := OK_t hh hc
    refine A_mask [false, false, false, true, true, false] (lv1 := [none, none, none, some (aL x.1), none, none]) rfl ?_
    exact hout0 (x.1, x.2.2) hh
  · replace hh := OK_f hh hc
    refine A_blk hM.1 4 (lv1 := [some (aR 150), some (aI v1), some (aI v2), some (aL x.1), none, some (aI x.2.1)]) (s1 := [aI x.2.1, aI v1, aR 150, aL x.1]) (h1 := x.2.2) rfl ?_
    refine A_callV hM rfl rfl (mem_GW 2094 (by decide +kernel) rfl) mi_X12_farOf (As := [aI v1, aI x.2.1]) (rest := [aL x.1]) (ct_X12_farOf v1 x.2.1 x.2.2 (OK_bind hh)) (by decide) ⟨Nat.zero_le _, Nat.zero_le _⟩ rfl rfl (Nat.le_of_ble_eq_true rfl) (by decide) rfl (by decide) rfl (fun r F' h' hq1 => ?_)
    obtain ⟨rfl, r3, rfl, e9, hh⟩ := hq1
    subst h'
    refine A_blk hM.1 1 (lv1 := [some (aR 150), some (aI v1), some (aI v2), some (aL x.1), none, some (aI x.2.1)]) (s1 := [aI v2, aI r3.1, aL x.1]) (h1 := r3.2) rfl ?_
    refine A_icmp hM.1 rfl rfl (fun hc => ?_) (fun hc => ?_)
    · replace hh := OK_t hh hc
      refine A_blk hM.1 1 (lv1 := [some (aR 150), some (aI v1), some (aI v2), some (aL x.1), none, some (aI x.2.1)]) (s1 := [aL 0, aL x.1]) (h1 := r3.2) rfl ?_
      refine A_mask [true, true, true, false, true, true] (lv1 := [some (aR 150), some (aI v1), some (aI v2), none, none, some (aI x.2.1)]) rfl ?_
      exact c_X12_same_j32 hM v1 v2 x.2.1 x.1 0 r3.2 hin hout0 hh
    · replace hh := OK_f hh hc
      refine A_blk hM.1 3 (lv1 := [some (aR 150), some (aI v1), some (aI v2), some (aL x.1), none, some (aI x.2.1)]) (s1 := [aL (shl64 1 x.2.1), aL x.1]) (h1 := r3.2) rfl ?_
      refine A_go hM.1 rfl rfl ?_
      refine A_mask [true, true, true, false, true, true] (lv1 := [some (aR 150), some (aI v1), some (aI v2), none, none, some (aI x.2.1)]) rfl ?_
      exact c_X12_same_j32 hM v1 v2 x.2.1 x.1 (shl64 1 x.2.1) r3.2 hin hout0 hh

set_option maxRecDepth 20000 in
set_option maxHeartbeats 4000000 in
theorem c_X12_same {k0 : K0} {G : Gx} {Qp : Option AV → Fx → Hp → Prop} (hM : MB (KM k0 0 0 Qp) G M_X12_same 3) (v1 : Int) (v2 : Int) (h : Hp)   {P : (Int × Hp) → Prop} (hq : ∀ z : Int × Hp, P z → Qp (some (aL z.1)) FN z.2) (hh : OK (X12_same v1 v2 h) P) : ATk (KM k0 0 0 Qp) FN 0 0 M_X12_same 0 [some (aR 150), some (aI v1), some (aI v2), none, none, none] [] h := by
  unfold X12_same at hh
  refine A_blk hM.1 2 (lv1 := [some (aR 150), some (aI v1), some (aI v2), none, none, none]) (s1 := [aI v1, aR 150]) (h1 := h) rfl ?_
  refine A_callV hM rfl rfl (mem_GW 2086 (by decide +kernel) rfl) mi_X12_isBit (As := [aI v1]) (rest := []) (ct_X12_isBit v1 h (OK_bind hh)) (by decide) ⟨Nat.zero_le _, Nat.zero_le _⟩ rfl rfl (Nat.le_of_ble_eq_true rfl) (by decide) rfl (by decide) rfl (fun r F' h' hq1 => ?_)
  obtain ⟨rfl, r1, rfl, e9, hh⟩ := hq1
  subst h'
  refine A_ifc hM.1 rfl rfl (fun hc => ?_) (fun hc => ?_)
  · replace hh := OK_t hh hc
    refine A_blk hM.1 1 (lv1 := [some (aR 150), some (aI v1), some (aI v2), none, none, none]) (s1 := [aL (-1)]) (h1 := h) rfl ?_
    exact A_retl hM.1 rfl rfl rfl (hq ((-1), h) hh)
  · replace hh := OK_f hh hc
    refine A_blk hM.1 4 (lv1 := [some (aR 150), some (aI v1), some (aI v2), none, none, none]) (s1 := [aL 8, aL 0, aL (w32 v2)]) (h1 := h) rfl ?_
    refine A_callS hM rfl rfl (mem_GW 1879 (by decide +kernel) rfl) mi_X12_lies ms_X12_lies (As := [aL (w32 v2), aL 0, aL 8]) (rest := []) (ct_X12_lies (w32 v2) 0 8 h (OK_bind hh)) (by decide) ⟨Nat.zero_le _, Nat.zero_le _⟩ rfl rfl (Nat.le_of_ble_eq_true rfl) (fun r F' h' hq1 => ?_)
    obtain ⟨rfl, r2, rfl, e9, hh⟩ := hq1
    subst h'
    refine A_ifc hM.1 rfl rfl (fun hc => ?_) (fun hc => ?_)
    · replace hh := OK_t hh hc
      refine A_blk hM.1 4 (lv1 := [some (aR 150), some (aI v1), some (aI v2), some (aL 0), none, some (aI 0)]) (s1 := []) (h1 := h) rfl ?_
      refine iter_ok (s := (0, 0, h)) (Gp := fun z => ATk (KM k0 0 0 Qp) FN 0 0 M_X12_same 16 [some (aR 150), some (aI v1), some (aI v2), some (aL z.1), none, some (aI z.2.1)] [] z.2.2) (E := fun z => ATk (KM k0 0 0 Qp) FN 0 0 M_X12_same 36 [none, none, none, some (aL z.1), none, none] [] z.2) (fun z P1 g1 g2 g3 => c_X12_same_l16 hM v1 v2 z g2 g3 g1) (OK_bind hh) (fun x4 hh => ?_)
      refine A_blk hM.1 1 (lv1 := [none, none, none, some (aL x4.1), none, none]) (s1 := [aL x4.1]) (h1 := x4.2) rfl ?_
      exact A_retl hM.1 rfl rfl rfl (hq (x4.1, x4.2) hh)
    · replace hh := OK_f hh hc
      refine A_blk hM.1 1 (lv1 := [some (aR 150), some (aI v1), some (aI v2), none, none, none]) (s1 := [aL (-1)]) (h1 := h) rfl ?_
      exact A_retl hM.1 rfl rfl rfl (hq ((-1), h) hh)

set_option maxRecDepth 20000 in
set_option maxHeartbeats 4000000 in
theorem ct_X12_same {G : Gx} (v1 : Int) (v2 : Int) (h : Hp)   {P : (Int × Hp) → Prop} (hh : OK (X12_same v1 v2 h) P) : CT G yX12_same M_X12_same 3 0 0 FN h [aR 150, aI v1, aI v2] (fun r F' h' => F' = FN ∧ ∃ z, r = some (aL z.1) ∧ h' = z.2 ∧ P z) :=
  CT.of (by decide +kernel) rfl (Nat.le_of_ble_eq_true rfl) k_X12_same fun k0 _ _ hM => c_X12_same hM v1 v2 h (fun z hz => ⟨rfl, z, rfl, rfl, hz⟩) hh

theorem mi_X12_findsWord : MIv yX12_findsWord M_X12_findsWord 3 := ⟨⟨(mem_GW 2143 (by decide +kernel) rfl), (mem_GW 135 (by decide +kernel) rfl), by decide +kernel, by decide +kernel, by decide +kernel, by decide⟩, (mem_GW 2142 (by decide +kernel) rfl), (mem_GW 96 (by decide +kernel) rfl)⟩
set_option maxRecDepth 20000 in
set_option maxHeartbeats 4000000 in
theorem c_X12_findsWord_l2 {k0 : K0} {G : Gx} {Qp : Option AV → Fx → Hp → Prop} (hM : MB (KM k0 0 0 Qp) G M_X12_findsWord 1) (v1 : Int) (v3 : Int) (h : Hp) (x : Int)   {P : ((Int) ⊕ (Int)) → Prop} (hin : ∀ y : Int, P (.inl y) → ATk (KM k0 0 0 Qp) FN 0 0 M_X12_findsWord 2 [some (aR 150), some (aI v1), none, some (aI v3), some (aI y)] [] h) (hout0 : ∀ y : Int, P (.inr y) → ATk (KM k0 0 0 Qp) FN 0 0 M_X12_findsWord 20 [none, none, none, none, some (aI y)] [] h) (hh : OK (X12_findsWord_l2 v1 v3 h x) P) : ATk (KM k0 0 0 Qp) FN 0 0 M_X12_findsWord 2 [some (aR 150), some (aI v1), none, some (aI v3), some (aI x)] [] h := by
  unfold X12_findsWord_l2 at hh
  refine A_blk hM.1 4 (lv1 := [some (aR 150), some (aI v1), none, some (aI v3), some (aI x)]) (s1 := [aI v1, aR 164, aI x]) (h1 := h) rfl ?_
  obtain ⟨g1, hh⟩ := OK_g hh
  refine A_ald hM.1 rfl (Or.inl ⟨rfl, rfl⟩) rfl (by decide) rfl g1 ?_
  refine A_icmp hM.1 rfl rfl (fun hc => ?_) (fun hc => ?_)
  · replace hh := OK_t hh hc
    refine A_mask [false, false, true, false, true] (lv1 := [none, none, none, none, some (aI x)]) rfl ?_
    exact hout0 x hh
  · replace hh := OK_f hh hc
    refine A_blk hM.1 7 (lv1 := [some (aR 150), some (aI v1), none, some (aI v3), some (aI x)]) (s1 := [aI ((8 * v1) + x), aR 165]) (h1 := h) rfl ?_
    obtain ⟨g2, hh⟩ := OK_g hh
    refine A_ald hM.1 rfl (Or.inl ⟨rfl, rfl⟩) rfl (by decide) rfl g2 ?_
    refine A_blk hM.1 1 (lv1 := [some (aR 150), some (aI v1), none, some (aI v3), some (aI x)]) (s1 := [aI v3, aI (h 165 ((w32 ((8 * v1) + x)).toNat))]) (h1 := h) rfl ?_
    refine A_icmp hM.1 rfl rfl (fun hc => ?_) (fun hc => ?_)
    · replace hh := OK_t hh hc
      refine A_mask [false, false, true, false, true] (lv1 := [none, none, none, none, some (aI x)]) rfl ?_
      exact hout0 x hh
    · replace hh := OK_f hh hc
      refine A_blk hM.1 1 (lv1 := [some (aR 150), some (aI v1), none, some (aI v3), some (aI (x + 1))]) (s1 := []) (h1 := h) rfl ?_
      refine A_go hM.1 rfl rfl ?_
      exact hin (x + 1) hh

set_option maxRecDepth 20000 in
set_option maxHeartbeats 4000000 in
theorem c_X12_findsWord {k0 : K0} {G : Gx} {Qp : Option AV → Fx → Hp → Prop} (hM : MB (KM k0 0 0 Qp) G M_X12_findsWord 1) (v1 : Int) (v2 : Int) (v3 : Int) (h : Hp)   {P : Int → Prop} (hq : ∀ z : Int, P z → Qp (some (aI z)) FN h) (hh : OK (X12_findsWord v1 v2 v3 h) P) : ATk (KM k0 0 0 Qp) FN 0 0 M_X12_findsWord 0 [some (aR 150), some (aI v1), some (aI v2), some (aI v3), none] [] h := by
  unfold X12_findsWord at hh
  refine A_blk hM.1 2 (lv1 := [some (aR 150), some (aI v1), some (aI v2), some (aI v3), some (aI v2)]) (s1 := []) (h1 := h) rfl ?_
  refine A_mask [true, true, false, true, true] (lv1 := [some (aR 150), some (aI v1), none, some (aI v3), some (aI v2)]) rfl ?_
  refine iter_ok (s := v2) (Gp := fun z => ATk (KM k0 0 0 Qp) FN 0 0 M_X12_findsWord 2 [some (aR 150), some (aI v1), none, some (aI v3), some (aI z)] [] h) (E := fun z => ATk (KM k0 0 0 Qp) FN 0 0 M_X12_findsWord 20 [none, none, none, none, some (aI z)] [] h) (fun z P1 g1 g2 g3 => c_X12_findsWord_l2 hM v1 v3 h z g2 g3 g1) (OK_bind hh) (fun x3 hh => ?_)
  refine A_blk hM.1 1 (lv1 := [none, none, none, none, some (aI x3)]) (s1 := [aI x3]) (h1 := h) rfl ?_
  exact A_reti hM.1 rfl rfl rfl (hq x3 hh)

set_option maxRecDepth 20000 in
set_option maxHeartbeats 4000000 in
theorem ct_X12_findsWord {G : Gx} (v1 : Int) (v2 : Int) (v3 : Int) (h : Hp)   {P : Int → Prop} (hh : OK (X12_findsWord v1 v2 v3 h) P) : CT G yX12_findsWord M_X12_findsWord 1 0 0 FN h [aR 150, aI v1, aI v2, aI v3] (fun r F' h' => F' = FN ∧ ∃ z, r = some (aI z) ∧ h' = h ∧ P z) :=
  CT.of (by decide +kernel) rfl (Nat.le_of_ble_eq_true rfl) k_X12_findsWord fun k0 _ _ hM => c_X12_findsWord hM v1 v2 v3 h (fun z hz => ⟨rfl, z, rfl, rfl, hz⟩) hh

theorem mi_X12_leads : MIv yX12_leads M_X12_leads 5 := ⟨⟨(mem_GW 2139 (by decide +kernel) rfl), (mem_GW 135 (by decide +kernel) rfl), by decide +kernel, by decide +kernel, by decide +kernel, by decide⟩, (mem_GW 2138 (by decide +kernel) rfl), (mem_GW 95 (by decide +kernel) rfl)⟩
set_option maxRecDepth 20000 in
set_option maxHeartbeats 4000000 in
theorem c_X12_leads {k0 : K0} {G : Gx} {Qp : Option AV → Fx → Hp → Prop} (hM : MB (KM k0 0 0 Qp) G M_X12_leads 2) (v1 : Int) (v2 : Int) (v3 : Int) (v4 : Int) (v5 : Int) (h : Hp)   {P : Int → Prop} (hq : ∀ z : Int, P z → Qp (some (aI z)) FN h) (hh : OK (X12_leads v1 v2 v3 v4 v5 h) P) : ATk (KM k0 0 0 Qp) FN 0 0 M_X12_leads 0 [some (aR 150), some (aI v1), some (aI v2), some (aI v3), some (aI v4), some (aI v5), none, none] [] h := by
  unfold X12_leads at hh
  refine A_blk hM.1 4 (lv1 := [some (aR 150), some (aI v1), some (aI v2), some (aI v3), some (aI v4), some (aI v5), none, none]) (s1 := [aI v5, aI v3, aI v1, aR 150]) (h1 := h) rfl ?_
  refine A_callV hM rfl rfl (mem_GW 2140 (by decide +kernel) rfl) mi_X12_findsWord (As := [aI v1, aI v3, aI v5]) (rest := []) (ct_X12_findsWord v1 v3 v5 h (OK_bind hh)) (by decide) ⟨Nat.zero_le _, Nat.zero_le _⟩ rfl rfl (Nat.le_of_ble_eq_true rfl) (by decide) rfl (by decide) rfl (fun r F' h' hq1 => ?_)
  obtain ⟨rfl, r1, rfl, e9, hh⟩ := hq1
  subst h'
  refine A_blk hM.1 5 (lv1 := [some (aR 150), some (aI v1), some (aI v2), some (aI v3), some (aI v4), some (aI v5), some (aI r1), none]) (s1 := [aI v5, aI v4, aI v2, aR 150]) (h1 := h) rfl ?_
  refine A_callV hM rfl rfl (mem_GW 2140 (by decide +kernel) rfl) mi_X12_findsWord (As := [aI v2, aI v4, aI v5]) (rest := []) (ct_X12_findsWord v2 v4 v5 h (OK_bind hh)) (by decide) ⟨Nat.zero_le _, Nat.zero_le _⟩ rfl rfl (Nat.le_of_ble_eq_true rfl) (by decide) rfl (by decide) rfl (fun r F' h' hq1 => ?_)
  obtain ⟨rfl, r2, rfl, e9, hh⟩ := hq1
  subst h'
  refine A_blk hM.1 5 (lv1 := [some (aR 150), some (aI v1), some (aI v2), some (aI v3), some (aI v4), some (aI v5), some (aI r1), some (aI r2)]) (s1 := [aI v1, aR 164, aI r1]) (h1 := h) rfl ?_
  obtain ⟨g3, hh⟩ := OK_g hh
  refine A_ald hM.1 rfl (Or.inl ⟨rfl, rfl⟩) rfl (by decide) rfl g3 ?_
  refine A_icmp hM.1 rfl rfl (fun hc => ?_) (fun hc => ?_)
  · replace hh := OK_t hh hc
    refine A_blk hM.1 1 (lv1 := [some (aR 150), some (aI v1), some (aI v2), some (aI v3), some (aI v4), some (aI v5), some (aI r1), some (aI r2)]) (s1 := [aI 0]) (h1 := h) rfl ?_
    exact A_retz hM.1 rfl rfl rfl (by decide) (hq 0 hh)
  · replace hh := OK_f hh hc
    refine A_blk hM.1 4 (lv1 := [some (aR 150), some (aI v1), some (aI v2), some (aI v3), some (aI v4), some (aI v5), some (aI r1), some (aI r2)]) (s1 := [aI v2, aR 164, aI r2]) (h1 := h) rfl ?_
    obtain ⟨g4, hh⟩ := OK_g hh
    refine A_ald hM.1 rfl (Or.inl ⟨rfl, rfl⟩) rfl (by decide) rfl g4 ?_
    refine A_icmp hM.1 rfl rfl (fun hc => ?_) (fun hc => ?_)
    · replace hh := OK_t hh hc
      refine A_blk hM.1 1 (lv1 := [some (aR 150), some (aI v1), some (aI v2), some (aI v3), some (aI v4), some (aI v5), some (aI r1), some (aI r2)]) (s1 := [aI 0]) (h1 := h) rfl ?_
      exact A_retz hM.1 rfl rfl rfl (by decide) (hq 0 hh)
    · replace hh := OK_f hh hc
      refine A_blk hM.1 9 (lv1 := [some (aR 150), some (aI v1), some (aI v2), some (aI v3), some (aI v4), some (aI v5), some (aI r1), some (aI r2)]) (s1 := [aI (((9 * r1) + 10) + r2), aR 183]) (h1 := h) rfl ?_
      obtain ⟨g5, hh⟩ := OK_g hh
      refine A_ald hM.1 rfl (Or.inl ⟨rfl, rfl⟩) rfl (by decide) rfl g5 ?_
      refine A_blk hM.1 9 (lv1 := [some (aR 150), some (aI v1), some (aI v2), some (aI v3), some (aI v4), some (aI v5), some (aI r1), some (aI r2)]) (s1 := [aI ((9 * v3) + v4), aR 183, aI ((h 183 ((w32 (((9 * r1) + 10) + r2)).toNat)) + 1)]) (h1 := h) rfl ?_
      obtain ⟨g6, hh⟩ := OK_g hh
      refine A_ald hM.1 rfl (Or.inl ⟨rfl, rfl⟩) rfl (by decide) rfl g6 ?_
      refine A_icmp hM.1 rfl rfl (fun hc => ?_) (fun hc => ?_)
      · replace hh := OK_t hh hc
        refine A_blk hM.1 1 (lv1 := [some (aR 150), some (aI v1), some (aI v2), some (aI v3), some (aI v4), some (aI v5), some (aI r1), some (aI r2)]) (s1 := [aI 0]) (h1 := h) rfl ?_
        exact A_retz hM.1 rfl rfl rfl (by decide) (hq 0 hh)
      · replace hh := OK_f hh hc
        refine A_blk hM.1 1 (lv1 := [some (aR 150), some (aI v1), some (aI v2), some (aI v3), some (aI v4), some (aI v5), some (aI r1), some (aI r2)]) (s1 := [aI 1]) (h1 := h) rfl ?_
        refine A_go hM.1 rfl rfl ?_
        exact A_retz hM.1 rfl rfl rfl (by decide) (hq 1 hh)

set_option maxRecDepth 20000 in
set_option maxHeartbeats 4000000 in
theorem ct_X12_leads {G : Gx} (v1 : Int) (v2 : Int) (v3 : Int) (v4 : Int) (v5 : Int) (h : Hp)   {P : Int → Prop} (hh : OK (X12_leads v1 v2 v3 v4 v5 h) P) : CT G yX12_leads M_X12_leads 2 0 0 FN h [aR 150, aI v1, aI v2, aI v3, aI v4, aI v5] (fun r F' h' => F' = FN ∧ ∃ z, r = some (aI z) ∧ h' = h ∧ P z) :=
  CT.of (by decide +kernel) rfl (Nat.le_of_ble_eq_true rfl) k_X12_leads fun k0 _ _ hM => c_X12_leads hM v1 v2 v3 v4 v5 h (fun z hz => ⟨rfl, z, rfl, rfl, hz⟩) hh

theorem mi_X12_standsBoth : MIv yX12_standsBoth M_X12_standsBoth 2 := ⟨⟨(mem_GW 2135 (by decide +kernel) rfl), (mem_GW 135 (by decide +kernel) rfl), by decide +kernel, by decide +kernel, by decide +kernel, by decide⟩, (mem_GW 2134 (by decide +kernel) rfl), (mem_GW 94 (by decide +kernel) rfl)⟩
set_option maxRecDepth 20000 in
set_option maxHeartbeats 4000000 in
theorem c_X12_standsBoth_j103 {k0 : K0} {G : Gx} {Qp : Option AV → Fx → Hp → Prop} (hM : MB (KM k0 0 0 Qp) G M_X12_standsBoth 3) (v1 : Int) (v2 : Int) (v3 : Int) (v4 : Int) (v5 : Int) (h : Hp)   {P : ((Int × Hp) ⊕ (Hp)) → Prop} (hin : ∀ y : Int × Hp, P (.inl y) → ATk (KM k0 0 0 Qp) FN 0 0 M_X12_standsBoth 12 [some (aR 150), some (aI v1), some (aI v2), some (aI v3), some (aI y.1), none, none, none] [] y.2) (hout0 : ∀ y : Hp, P (.inr y) → ATk (KM k0 0 0 Qp) FN 0 0 M_X12_standsBoth 114 [some (aR 150), some (aI v1), some (aI v2), some (aI v3), none, none, none, none] [] y) (hh : OK (X12_standsBoth_j103 v1 v2 v3 v4 v5 h) P) : ATk (KM k0 0 0 Qp) FN 0 0 M_X12_standsBoth 103 [some (aR 150), some (aI v1), some (aI v2), some (aI v3), some (aI v4), some (aI v5), none, none] [] h := by
  unfold X12_standsBoth_j103 at hh
  refine A_blk hM.1 8 (lv1 := [some (aR 150), some (aI v1), some (aI v2), some (aI v3), some (aI v4), some (aI v5), none, none]) (s1 := [aI v5, aI ((9 * v3) + v4), aR 183]) (h1 := h) rfl ?_
  obtain ⟨g4, hh⟩ := OK_g hh
  refine A_ast hM.1 rfl (Or.inl ⟨rfl, rfl, rfl⟩) rfl rfl rfl g4 ?_
  refine A_blk hM.1 1 (lv1 := [some (aR 150), some (aI v1), some (aI v2), some (aI v3), some (aI (v4 + (-1))), some (aI v5), none, none]) (s1 := []) (h1 := setH h 183 ((w32 ((9 * v3) + v4)).toNat) v5) rfl ?_
  refine A_go hM.1 rfl rfl ?_
  refine A_mask [true, true, true, true, true, false, true, true] (lv1 := [some (aR 150), some (aI v1), some (aI v2), some (aI v3), some (aI (v4 + (-1))), none, none, none]) rfl ?_
  exact hin (v4 + (-1), setH h 183 ((w32 ((9 * v3) + v4)).toNat) v5) hh

set_option maxRecDepth 20000 in
set_option maxHeartbeats 4000000 in
theorem c_X12_standsBoth_j102 {k0 : K0} {G : Gx} {Qp : Option AV → Fx → Hp → Prop} (hM : MB (KM k0 0 0 Qp) G M_X12_standsBoth 3) (v1 : Int) (v2 : Int) (v3 : Int) (v4 : Int) (s0 : Int) (h : Hp)   {P : ((Int × Hp) ⊕ (Hp)) → Prop} (hin : ∀ y : Int × Hp, P (.inl y) → ATk (KM k0 0 0 Qp) FN 0 0 M_X12_standsBoth 12 [some (aR 150), some (aI v1), some (aI v2), some (aI v3), some (aI y.1), none, none, none] [] y.2) (hout0 : ∀ y : Hp, P (.inr y) → ATk (KM k0 0 0 Qp) FN 0 0 M_X12_standsBoth 114 [some (aR 150), some (aI v1), some (aI v2), some (aI v3), none, none, none, none] [] y) (hh : OK (X12_standsBoth_j102 v1 v2 v3 v4 s0 h) P) : ATk (KM k0 0 0 Qp) FN 0 0 M_X12_standsBoth 102 [some (aR 150), some (aI v1), some (aI v2), some (aI v3), some (aI v4), none, none, none] [aI s0] h := by
  unfold X12_standsBoth_j102 at hh
  refine A_blk hM.1 1 (lv1 := [some (aR 150), some (aI v1), some (aI v2), some (aI v3), some (aI v4), some (aI s0), none, none]) (s1 := []) (h1 := h) rfl ?_
  exact c_X12_standsBoth_j103 hM v1 v2 v3 v4 s0 h hin hout0 hh

set_option maxRecDepth 20000 in
set_option maxHeartbeats 4000000 in
theorem c_X12_standsBoth_j70 {k0 : K0} {G : Gx} {Qp : Option AV → Fx → Hp → Prop} (hM : MB (KM k0 0 0 Qp) G M_X12_standsBoth 3) (v1 : Int) (v2 : Int) (v3 : Int) (v4 : Int) (s0 : Int) (h : Hp)   {P : ((Int × Hp) ⊕ (Hp)) → Prop} (hin : ∀ y : Int × Hp, P (.inl y) → ATk (KM k0 0 0 Qp) FN 0 0 M_X12_standsBoth 12 [some (aR 150), some (aI v1), some (aI v2), some (aI v3), some (aI y.1), none, none, none] [] y.2) (hout0 : ∀ y : Hp, P (.inr y) → ATk (KM k0 0 0 Qp) FN 0 0 M_X12_standsBoth 114 [some (aR 150), some (aI v1), some (aI v2), some (aI v3), none, none, none, none] [] y) (hh : OK (X12_standsBoth_j70 v1 v2 v3 v4 s0 h) P) : ATk (KM k0 0 0 Qp) FN 0 0 M_X12_standsBoth 70 [some (aR 150), some (aI v1), some (aI v2), some (aI v3), some (aI v4), none, none, none] [aI s0] h := by
  unfold X12_standsBoth_j70 at hh
  refine A_blk hM.1 8 (lv1 := [some (aR 150), some (aI v1), some (aI v2), some (aI v3), some (aI v4), none, some (aI s0), none]) (s1 := [aI ((8 * v1) + v3), aR 165]) (h1 := h) rfl ?_
  obtain ⟨g9, hh⟩ := OK_g hh
  refine A_ald hM.1 rfl (Or.inl ⟨rfl, rfl⟩) rfl (by decide) rfl g9 ?_
  refine A_blk hM.1 7 (lv1 := [some (aR 150), some (aI v1), some (aI v2), some (aI v3), some (aI v4), none, some (aI s0), none]) (s1 := [aI ((8 * v2) + v4), aR 165, aI (h 165 ((w32 ((8 * v1) + v3)).toNat))]) (h1 := h) rfl ?_
  obtain ⟨g10, hh⟩ := OK_g hh
  refine A_ald hM.1 rfl (Or.inl ⟨rfl, rfl⟩) rfl (by decide) rfl g10 ?_
  refine A_icmp hM.1 rfl rfl (fun hc => ?_) (fun hc => ?_)
  · replace hh := OK_t hh hc
    refine A_blk hM.1 1 (lv1 := [some (aR 150), some (aI v1), some (aI v2), some (aI v3), some (aI v4), none, some (aI s0), none]) (s1 := [aI s0]) (h1 := h) rfl ?_
    refine A_mask [true, true, true, true, true, true, false, true] (lv1 := [some (aR 150), some (aI v1), some (aI v2), some (aI v3), some (aI v4), none, none, none]) rfl ?_
    exact c_X12_standsBoth_j102 hM v1 v2 v3 v4 s0 h hin hout0 hh
  · replace hh := OK_f hh hc
    refine A_blk hM.1 9 (lv1 := [some (aR 150), some (aI v1), some (aI v2), some (aI v3), some (aI v4), none, some (aI s0), none]) (s1 := [aI (((9 * v3) + 10) + v4), aR 183]) (h1 := h) rfl ?_
    obtain ⟨g11, hh⟩ := OK_g hh
    refine A_ald hM.1 rfl (Or.inl ⟨rfl, rfl⟩) rfl (by decide) rfl g11 ?_
    refine A_blk hM.1 2 (lv1 := [some (aR 150), some (aI v1), some (aI v2), some (aI v3), some (aI v4), none, some (aI s0), none]) (s1 := [aI ((h 183 ((w32 (((9 * v3) + 10) + v4)).toNat)) + 1)]) (h1 := h) rfl ?_
    refine A_go hM.1 rfl rfl ?_
    refine A_mask [true, true, true, true, true, true, false, true] (lv1 := [some (aR 150), some (aI v1), some (aI v2), some (aI v3), some (aI v4), none, none, none]) rfl ?_
    exact c_X12_standsBoth_j102 hM v1 v2 v3 v4 ((h 183 ((w32 (((9 * v3) + 10) + v4)).toNat)) + 1) h hin hout0 hh

set_option maxRecDepth 20000 in
set_option maxHeartbeats 4000000 in
theorem c_X12_standsBoth_l12 {k0 : K0} {G : Gx} {Qp : Option AV → Fx → Hp → Prop} (hM : MB (KM k0 0 0 Qp) G M_X12_standsBoth 3) (v1 : Int) (v2 : Int) (v3 : Int) (x : Int × Hp)   {P : ((Int × Hp) ⊕ (Hp)) → Prop} (hin : ∀ y : Int × Hp, P (.inl y) → ATk (KM k0 0 0 Qp) FN 0 0 M_X12_standsBoth 12 [some (aR 150), some (aI v1), some (aI v2), some (aI v3), some (aI y.1), none, none, none] [] y.2) (hout0 : ∀ y : Hp, P (.inr y) → ATk (KM k0 0 0 Qp) FN 0 0 M_X12_standsBoth 114 [some (aR 150), some (aI v1), some (aI v2), some (aI v3), none, none, none, none] [] y) (hh : OK (X12_standsBoth_l12 v1 v2 v3 x) P) : ATk (KM k0 0 0 Qp) FN 0 0 M_X12_standsBoth 12 [some (aR 150), some (aI v1), some (aI v2), some (aI v3), some (aI x.1), none, none, none] [] x.2 := by
  unfold X12_standsBoth_l12 at hh
  refine A_blk hM.1 1 (lv1 := [some (aR 150), some (aI v1), some (aI v2), some (aI v3), some (aI x.1), none, none, none]) (s1 := [aI x.1]) (h1 := x.2) rfl ?_
  refine A_ifc hM.1 rfl rfl (fun hc => ?_) (fun hc => ?_)
  · replace hh := OK_t hh hc
    refine A_mask [true, true, true, true, false, true, true, true] (lv1 := [some (aR 150), some (aI v1), some (aI v2), some (aI v3), none, none, none, none]) rfl ?_
    exact hout0 x.2 hh
  · replace hh := OK_f hh hc
    refine A_blk hM.1 6 (lv1 := [some (aR 150), some (aI v1), some (aI v2), some (aI v3), some (aI x.1), some (aI 0), none, none]) (s1 := [aI v1, aR 164, aI v3]) (h1 := x.2) rfl ?_
    obtain ⟨g3, hh⟩ := OK_g hh
    refine A_ald hM.1 rfl (Or.inl ⟨rfl, rfl⟩) rfl (by decide) rfl g3 ?_
    refine A_icmp hM.1 rfl rfl (fun hc => ?_) (fun hc => ?_)
    · replace hh := OK_t hh hc
      exact c_X12_standsBoth_j103 hM v1 v2 v3 x.1 0 x.2 hin hout0 hh
    · replace hh := OK_f hh hc
      refine A_blk hM.1 4 (lv1 := [some (aR 150), some (aI v1), some (aI v2), some (aI v3), some (aI x.1), some (aI 0), none, none]) (s1 := [aI v2, aR 164, aI x.1]) (h1 := x.2) rfl ?_
      obtain ⟨g5, hh⟩ := OK_g hh
      refine A_ald hM.1 rfl (Or.inl ⟨rfl, rfl⟩) rfl (by decide) rfl g5 ?_
      refine A_icmp hM.1 rfl rfl (fun hc => ?_) (fun hc => ?_)
      · replace hh := OK_t hh hc
        exact c_X12_standsBoth_j103 hM v1 v2 v3 x.1 0 x.2 hin hout0 hh
      · replace hh := OK_f hh hc
        refine A_blk hM.1 9 (lv1 := [some (aR 150), some (aI v1), some (aI v2), some (aI v3), some (aI x.1), some (aI 0), none, none]) (s1 := [aI (((9 * v3) + 9) + x.1), aR 183]) (h1 := x.2) rfl ?_
        obtain ⟨g6, hh⟩ := OK_g hh
        refine A_ald hM.1 rfl (Or.inl ⟨rfl, rfl⟩) rfl (by decide) rfl g6 ?_
        refine A_blk hM.1 9 (lv1 := [some (aR 150), some (aI v1), some (aI v2), some (aI v3), some (aI x.1), some (aI 0), none, none]) (s1 := [aI (((9 * v3) + x.1) + 1), aR 183, aI (x.2 183 ((w32 (((9 * v3) + 9) + x.1)).toNat))]) (h1 := x.2) rfl ?_
        obtain ⟨g7, hh⟩ := OK_g hh
        refine A_ald hM.1 rfl (Or.inl ⟨rfl, rfl⟩) rfl (by decide) rfl g7 ?_
        refine A_icmp hM.1 rfl rfl (fun hc => ?_) (fun hc => ?_)
        · replace hh := OK_t hh hc
          refine A_blk hM.1 9 (lv1 := [some (aR 150), some (aI v1), some (aI v2), some (aI v3), some (aI x.1), some (aI 0), none, none]) (s1 := [aI (((9 * v3) + x.1) + 1), aR 183]) (h1 := x.2) rfl ?_
          obtain ⟨g8, hh⟩ := OK_g hh
          refine A_ald hM.1 rfl (Or.inl ⟨rfl, rfl⟩) rfl (by decide) rfl g8 ?_
          refine A_mask [true, true, true, true, true, false, true, true] (lv1 := [some (aR 150), some (aI v1), some (aI v2), some (aI v3), some (aI x.1), none, none, none]) rfl ?_
          exact c_X12_standsBoth_j70 hM v1 v2 v3 x.1 (x.2 183 ((w32 (((9 * v3) + x.1) + 1)).toNat)) x.2 hin hout0 hh
        · replace hh := OK_f hh hc
          refine A_blk hM.1 9 (lv1 := [some (aR 150), some (aI v1), some (aI v2), some (aI v3), some (aI x.1), some (aI 0), none, none]) (s1 := [aI (((9 * v3) + 9) + x.1), aR 183]) (h1 := x.2) rfl ?_
          obtain ⟨g12, hh⟩ := OK_g hh
          refine A_ald hM.1 rfl (Or.inl ⟨rfl, rfl⟩) rfl (by decide) rfl g12 ?_
          refine A_go hM.1 rfl rfl ?_
          refine A_mask [true, true, true, true, true, false, true, true] (lv1 := [some (aR 150), some (aI v1), some (aI v2), some (aI v3), some (aI x.1), none, none, none]) rfl ?_
          exact c_X12_standsBoth_j70 hM v1 v2 v3 x.1 (x.2 183 ((w32 (((9 * v3) + 9) + x.1)).toNat)) x.2 hin hout0 hh

set_option maxRecDepth 20000 in
set_option maxHeartbeats 4000000 in
theorem c_X12_standsBoth_l5 {k0 : K0} {G : Gx} {Qp : Option AV → Fx → Hp → Prop} (hM : MB (KM k0 0 0 Qp) G M_X12_standsBoth 3) (v1 : Int) (v2 : Int) (x : Int × Hp)   {P : ((Int × Hp) ⊕ (Hp)) → Prop} (hin : ∀ y : Int × Hp, P (.inl y) → ATk (KM k0 0 0 Qp) FN 0 0 M_X12_standsBoth 5 [some (aR 150), some (aI v1), some (aI v2), some (aI y.1), none, none, none, none] [] y.2) (hout0 : ∀ y : Hp, P (.inr y) → ATk (KM k0 0 0 Qp) FN 0 0 M_X12_standsBoth 116 [some (aR 150), some (aI v1), some (aI v2), none, none, none, none, none] [] y) (hh : OK (X12_standsBoth_l5 v1 v2 x) P) : ATk (KM k0 0 0 Qp) FN 0 0 M_X12_standsBoth 5 [some (aR 150), some (aI v1), some (aI v2), some (aI x.1), none, none, none, none] [] x.2 := by
  unfold X12_standsBoth_l5 at hh
  refine A_blk hM.1 1 (lv1 := [some (aR 150), some (aI v1), some (aI v2), some (aI x.1), none, none, none, none]) (s1 := [aI x.1]) (h1 := x.2) rfl ?_
  refine A_ifc hM.1 rfl rfl (fun hc => ?_) (fun hc => ?_)
  · replace hh := OK_t hh hc
    refine A_mask [true, true, true, false, true, true, true, true] (lv1 := [some (aR 150), some (aI v1), some (aI v2), none, none, none, none, none]) rfl ?_
    exact hout0 x.2 hh
  · replace hh := OK_f hh hc
    refine A_blk hM.1 3 (lv1 := [some (aR 150), some (aI v1), some (aI v2), some (aI x.1), none, none, none, none]) (s1 := [aI v2, aR 164]) (h1 := x.2) rfl ?_
    obtain ⟨g2, hh⟩ := OK_g hh
    refine A_ald hM.1 rfl (Or.inl ⟨rfl, rfl⟩) rfl (by decide) rfl g2 ?_
    refine A_blk hM.1 1 (lv1 := [some (aR 150), some (aI v1), some (aI v2), some (aI x.1), some (aI (x.2 164 ((w32 v2).toNat))), none, none, none]) (s1 := []) (h1 := x.2) rfl ?_
    refine iter_ok (s := (x.2 164 ((w32 v2).toNat), x.2)) (Gp := fun z => ATk (KM k0 0 0 Qp) FN 0 0 M_X12_standsBoth 12 [some (aR 150), some (aI v1), some (aI v2), some (aI x.1), some (aI z.1), none, none, none] [] z.2) (E := fun z => ATk (KM k0 0 0 Qp) FN 0 0 M_X12_standsBoth 114 [some (aR 150), some (aI v1), some (aI v2), some (aI x.1), none, none, none, none] [] z) (fun z P1 g1 g2 g3 => c_X12_standsBoth_l12 hM v1 v2 x.1 z g2 g3 g1) (OK_bind hh) (fun x13 hh => ?_)
    refine A_blk hM.1 1 (lv1 := [some (aR 150), some (aI v1), some (aI v2), some (aI (x.1 + (-1))), none, none, none, none]) (s1 := []) (h1 := x13) rfl ?_
    refine A_go hM.1 rfl rfl ?_
    exact hin (x.1 + (-1), x13) hh

set_option maxRecDepth 20000 in
set_option maxHeartbeats 4000000 in
theorem c_X12_standsBoth_l132 {k0 : K0} {G : Gx} {Qp : Option AV → Fx → Hp → Prop} (hM : MB (KM k0 0 0 Qp) G M_X12_standsBoth 3) (v1 : Int) (v2 : Int) (v3 : Int) (v4 : Int) (v5 : Int) (v6 : Int) (x : Int × Hp)   {P : ((Int × Hp) ⊕ (Int × Hp)) → Prop} (hin : ∀ y : Int × Hp, P (.inl y) → ATk (KM k0 0 0 Qp) FN 0 0 M_X12_standsBoth 132 [some (aR 150), some (aI v1), some (aI v2), some (aI v3), some (aI v4), some (aI v5), some (aI v6), some (aI y.1)] [] y.2) (hout0 : ∀ y : Int × Hp, P (.inr y) → ATk (KM k0 0 0 Qp) FN 0 0 M_X12_standsBoth 142 [some (aR 150), some (aI v1), some (aI v2), some (aI v3), some (aI v4), some (aI v5), some (aI v6), some (aI y.1)] [] y.2) (hh : OK (X12_standsBoth_l132 v1 v2 v3 v4 v5 v6 x) P) : ATk (KM k0 0 0 Qp) FN 0 0 M_X12_standsBoth 132 [some (aR 150), some (aI v1), some (aI v2), some (aI v3), some (aI v4), some (aI v5), some (aI v6), some (aI x.1)] [] x.2 := by
  unfold X12_standsBoth_l132 at hh
  refine A_blk hM.1 6 (lv1 := [some (aR 150), some (aI v1), some (aI v2), some (aI v3), some (aI v4), some (aI v5), some (aI v6), some (aI x.1)]) (s1 := [aI x.1, aI v4, aI v3, aI v2, aI v1, aR 150]) (h1 := x.2) rfl ?_
  refine A_callV hM rfl rfl (mem_GW 2136 (by decide +kernel) rfl) mi_X12_leads (As := [aI v1, aI v2, aI v3, aI v4, aI x.1]) (rest := []) (ct_X12_leads v1 v2 v3 v4 x.1 x.2 (OK_bind hh)) (by decide) ⟨Nat.zero_le _, Nat.zero_le _⟩ rfl rfl (Nat.le_of_ble_eq_true rfl) (by decide) rfl (by decide) rfl (fun r F' h' hq1 => ?_)
  obtain ⟨rfl, r16, rfl, e9, hh⟩ := hq1
  subst h'
  refine A_ifc hM.1 rfl rfl (fun hc => ?_) (fun hc => ?_)
  · replace hh := OK_t hh hc
    exact hout0 (x.1, x.2) hh
  · replace hh := OK_f hh hc
    refine A_blk hM.1 1 (lv1 := [some (aR 150), some (aI v1), some (aI v2), some (aI v3), some (aI v4), some (aI v5), some (aI v6), some (aI (x.1 + 1))]) (s1 := []) (h1 := x.2) rfl ?_
    refine A_go hM.1 rfl rfl ?_
    exact hin (x.1 + 1, x.2) hh

set_option maxRecDepth 20000 in
set_option maxHeartbeats 4000000 in
theorem c_X12_standsBoth_l127 {k0 : K0} {G : Gx} {Qp : Option AV → Fx → Hp → Prop} (hM : MB (KM k0 0 0 Qp) G M_X12_standsBoth 3) (v1 : Int) (v2 : Int) (v5 : Int) (x : Int × Int × Int × Hp)   {P : ((Int × Int × Int × Hp) ⊕ (Hp)) → Prop} (hin : ∀ y : Int × Int × Int × Hp, P (.inl y) → ATk (KM k0 0 0 Qp) FN 0 0 M_X12_standsBoth 127 [some (aR 150), some (aI v1), some (aI v2), some (aI y.1), some (aI y.2.1), some (aI v5), some (aI y.2.2.1), none] [] y.2.2.2) (hout0 : ∀ y : Hp, P (.inr y) → ATk (KM k0 0 0 Qp) FN 0 0 M_X12_standsBoth 165 [none, none, none, none, none, some (aI v5), none, none] [] y) (hh : OK (X12_standsBoth_l127 v1 v2 v5 x) P) : ATk (KM k0 0 0 Qp) FN 0 0 M_X12_standsBoth 127 [some (aR 150), some (aI v1), some (aI v2), some (aI x.1), some (aI x.2.1), some (aI v5), some (aI x.2.2.1), none] [] x.2.2.2 := by
  unfold X12_standsBoth_l127 at hh
  refine A_blk hM.1 2 (lv1 := [some (aR 150), some (aI v1), some (aI v2), some (aI x.1), some (aI x.2.1), some (aI v5), some (aI x.2.2.1), none]) (s1 := [aI v5, aI x.2.2.1]) (h1 := x.2.2.2) rfl ?_
  refine A_icmp hM.1 rfl rfl (fun hc => ?_) (fun hc => ?_)
  · replace hh := OK_t hh hc
    refine A_mask [false, false, false, false, false, true, false, true] (lv1 := [none, none, none, none, none, some (aI v5), none, none]) rfl ?_
    exact hout0 x.2.2.2 hh
  · replace hh := OK_f hh hc
    refine A_blk hM.1 2 (lv1 := [some (aR 150), some (aI v1), some (aI v2), some (aI x.1), some (aI x.2.1), some (aI v5), some (aI x.2.2.1), some (aI 0)]) (s1 := []) (h1 := x.2.2.2) rfl ?_
    refine iter_ok (s := (0, x.2.2.2)) (Gp := fun z => ATk (KM k0 0 0 Qp) FN 0 0 M_X12_standsBoth 132 [some (aR 150), some (aI v1), some (aI v2), some (aI x.1), some (aI x.2.1), some (aI v5), some (aI x.2.2.1), some (aI z.1)] [] z.2) (E := fun z => ATk (KM k0 0 0 Qp) FN 0 0 M_X12_standsBoth 142 [some (aR 150), some (aI v1), some (aI v2), some (aI x.1), some (aI x.2.1), some (aI v5), some (aI x.2.2.1), some (aI z.1)] [] z.2) (fun z P1 g1 g2 g3 => c_X12_standsBoth_l132 hM v1 v2 x.1 x.2.1 v5 x.2.2.1 z g2 g3 g1) (OK_bind hh) (fun x17 hh => ?_)
    refine A_blk hM.1 4 (lv1 := [some (aR 150), some (aI v1), some (aI v2), some (aI x.1), some (aI x.2.1), some (aI v5), some (aI x.2.2.1), some (aI x17.1)]) (s1 := [aI x17.1, aI x.2.2.1, aR 184]) (h1 := x17.2) rfl ?_
    obtain ⟨g18, hh⟩ := OK_g hh
    refine A_ast hM.1 rfl (Or.inl ⟨rfl, rfl, rfl⟩) rfl rfl rfl g18 ?_
    refine A_blk hM.1 4 (lv1 := [some (aR 150), some (aI v1), some (aI v2), some (aI x.1), some (aI x.2.1), some (aI v5), some (aI x.2.2.1), some (aI x17.1)]) (s1 := [aI x17.1, aI x.1, aI v1, aR 150]) (h1 := setH x17.2 184 ((w32 x.2.2.1).toNat) x17.1) rfl ?_
    refine A_callV hM rfl rfl (mem_GW 2140 (by decide +kernel) rfl) mi_X12_findsWord (As := [aI v1, aI x.1, aI x17.1]) (rest := []) (ct_X12_findsWord v1 x.1 x17.1 (setH x17.2 184 ((w32 x.2.2.1).toNat) x17.1) (OK_bind hh)) (by decide) ⟨Nat.zero_le _, Nat.zero_le _⟩ rfl rfl (Nat.le_of_ble_eq_true rfl) (by decide) rfl (by decide) rfl (fun r F' h' hq1 => ?_)
    obtain ⟨rfl, r19, rfl, e9, hh⟩ := hq1
    subst h'
    refine A_blk hM.1 7 (lv1 := [some (aR 150), some (aI v1), some (aI v2), some (aI (r19 + 1)), some (aI x.2.1), some (aI v5), some (aI x.2.2.1), some (aI x17.1)]) (s1 := [aI x17.1, aI x.2.1, aI v2, aR 150]) (h1 := setH x17.2 184 ((w32 x.2.2.1).toNat) x17.1) rfl ?_
    refine A_callV hM rfl rfl (mem_GW 2140 (by decide +kernel) rfl) mi_X12_findsWord (As := [aI v2, aI x.2.1, aI x17.1]) (rest := []) (ct_X12_findsWord v2 x.2.1 x17.1 (setH x17.2 184 ((w32 x.2.2.1).toNat) x17.1) (OK_bind hh)) (by decide) ⟨Nat.zero_le _, Nat.zero_le _⟩ rfl rfl (Nat.le_of_ble_eq_true rfl) (by decide) rfl (by decide) rfl (fun r F' h' hq1 => ?_)
    obtain ⟨rfl, r20, rfl, e9, hh⟩ := hq1
    subst h'
    refine A_blk hM.1 4 (lv1 := [some (aR 150), some (aI v1), some (aI v2), some (aI (r19 + 1)), some (aI (r20 + 1)), some (aI v5), some (aI (x.2.2.1 + 1)), some (aI x17.1)]) (s1 := []) (h1 := setH x17.2 184 ((w32 x.2.2.1).toNat) x17.1) rfl ?_
    refine A_go hM.1 rfl rfl ?_
    refine A_mask [true, true, true, true, true, true, true, false] (lv1 := [some (aR 150), some (aI v1), some (aI v2), some (aI (r19 + 1)), some (aI (r20 + 1)), some (aI v5), some (aI (x.2.2.1 + 1)), none]) rfl ?_
    exact hin (r19 + 1, r20 + 1, x.2.2.1 + 1, setH x17.2 184 ((w32 x.2.2.1).toNat) x17.1) hh

set_option maxRecDepth 20000 in
set_option maxHeartbeats 4000000 in
theorem c_X12_standsBoth {k0 : K0} {G : Gx} {Qp : Option AV → Fx → Hp → Prop} (hM : MB (KM k0 0 0 Qp) G M_X12_standsBoth 3) (v1 : Int) (v2 : Int) (h : Hp)   {P : (Int × Hp) → Prop} (hq : ∀ z : Int × Hp, P z → Qp (some (aI z.1)) FN z.2) (hh : OK (X12_standsBoth v1 v2 h) P) : ATk (KM k0 0 0 Qp) FN 0 0 M_X12_standsBoth 0 [some (aR 150), some (aI v1), some (aI v2), none, none, none, none, none] [] h := by
  unfold X12_standsBoth at hh
  refine A_blk hM.1 3 (lv1 := [some (aR 150), some (aI v1), some (aI v2), none, none, none, none, none]) (s1 := [aI v1, aR 164]) (h1 := h) rfl ?_
  obtain ⟨g1, hh⟩ := OK_g hh
  refine A_ald hM.1 rfl (Or.inl ⟨rfl, rfl⟩) rfl (by decide) rfl g1 ?_
  refine A_blk hM.1 1 (lv1 := [some (aR 150), some (aI v1), some (aI v2), some (aI (h 164 ((w32 v1).toNat))), none, none, none, none]) (s1 := []) (h1 := h) rfl ?_
  refine iter_ok (s := (h 164 ((w32 v1).toNat), h)) (Gp := fun z => ATk (KM k0 0 0 Qp) FN 0 0 M_X12_standsBoth 5 [some (aR 150), some (aI v1), some (aI v2), some (aI z.1), none, none, none, none] [] z.2) (E := fun z => ATk (KM k0 0 0 Qp) FN 0 0 M_X12_standsBoth 116 [some (aR 150), some (aI v1), some (aI v2), none, none, none, none, none] [] z) (fun z P1 g1 g2 g3 => c_X12_standsBoth_l5 hM v1 v2 z g2 g3 g1) (OK_bind hh) (fun x14 hh => ?_)
  refine A_blk hM.1 7 (lv1 := [some (aR 150), some (aI v1), some (aI v2), some (aI 0), some (aI 0), none, none, none]) (s1 := [aI 0, aR 183]) (h1 := x14) rfl ?_
  obtain ⟨g15, hh⟩ := OK_g hh
  refine A_ald hM.1 rfl (Or.inl ⟨rfl, rfl⟩) rfl (by decide) rfl g15 ?_
  refine A_blk hM.1 3 (lv1 := [some (aR 150), some (aI v1), some (aI v2), some (aI 0), some (aI 0), some (aI (x14 183 ((w32 0).toNat))), some (aI 0), none]) (s1 := []) (h1 := x14) rfl ?_
  refine iter_ok (s := (0, 0, 0, x14)) (Gp := fun z => ATk (KM k0 0 0 Qp) FN 0 0 M_X12_standsBoth 127 [some (aR 150), some (aI v1), some (aI v2), some (aI z.1), some (aI z.2.1), some (aI (x14 183 ((w32 0).toNat))), some (aI z.2.2.1), none] [] z.2.2.2) (E := fun z => ATk (KM k0 0 0 Qp) FN 0 0 M_X12_standsBoth 165 [none, none, none, none, none, some (aI (x14 183 ((w32 0).toNat))), none, none] [] z) (fun z P1 g1 g2 g3 => c_X12_standsBoth_l127 hM v1 v2 (x14 183 ((w32 0).toNat)) z g2 g3 g1) (OK_bind hh) (fun x21 hh => ?_)
  refine A_blk hM.1 1 (lv1 := [none, none, none, none, none, some (aI (x14 183 ((w32 0).toNat))), none, none]) (s1 := [aI (x14 183 ((w32 0).toNat))]) (h1 := x21) rfl ?_
  exact A_reti hM.1 rfl rfl rfl (hq (x14 183 ((w32 0).toNat), x21) hh)

set_option maxRecDepth 20000 in
set_option maxHeartbeats 4000000 in
theorem ct_X12_standsBoth {G : Gx} (v1 : Int) (v2 : Int) (h : Hp)   {P : (Int × Hp) → Prop} (hh : OK (X12_standsBoth v1 v2 h) P) : CT G yX12_standsBoth M_X12_standsBoth 3 0 0 FN h [aR 150, aI v1, aI v2] (fun r F' h' => F' = FN ∧ ∃ z, r = some (aI z.1) ∧ h' = z.2 ∧ P z) :=
  CT.of (by decide +kernel) rfl (Nat.le_of_ble_eq_true rfl) k_X12_standsBoth fun k0 _ _ hM => c_X12_standsBoth hM v1 v2 h (fun z hz => ⟨rfl, z, rfl, rfl, hz⟩) hh

theorem mi_X12_stood : MIv yX12_stood M_X12_stood 3 := ⟨⟨(mem_GW 2131 (by decide +kernel) rfl), (mem_GW 135 (by decide +kernel) rfl), by decide +kernel, by decide +kernel, by decide +kernel, by decide⟩, (mem_GW 2129 (by decide +kernel) rfl), (mem_GW 2130 (by decide +kernel) rfl)⟩
set_option maxRecDepth 20000 in
set_option maxHeartbeats 4000000 in
theorem c_X12_stood {k0 : K0} {G : Gx} {Qp : Option AV → Fx → Hp → Prop} (hM : MB (KM k0 0 0 Qp) G M_X12_stood 4) (v1 : Int) (v2 : Int) (v3 : Int) (h : Hp)   {P : (Int × Hp) → Prop} (hq : ∀ z : Int × Hp, P z → Qp (some (aI z.1)) FN z.2) (hh : OK (X12_stood v1 v2 v3 h) P) : ATk (KM k0 0 0 Qp) FN 0 0 M_X12_stood 0 [some (aR 150), some (aI v1), some (aI v2), some (aI v3), none] [] h := by
  unfold X12_stood at hh
  refine A_blk hM.1 2 (lv1 := [some (aR 150), some (aI v1), some (aI v2), some (aI v3), none]) (s1 := [aI v1, aR 150]) (h1 := h) rfl ?_
  refine A_callV hM rfl rfl (mem_GW 2086 (by decide +kernel) rfl) mi_X12_isBit (As := [aI v1]) (rest := []) (ct_X12_isBit v1 h (OK_bind hh)) (by decide) ⟨Nat.zero_le _, Nat.zero_le _⟩ rfl rfl (Nat.le_of_ble_eq_true rfl) (by decide) rfl (by decide) rfl (fun r F' h' hq1 => ?_)
  obtain ⟨rfl, r1, rfl, e9, hh⟩ := hq1
  subst h'
  refine A_ifc hM.1 rfl rfl (fun hc => ?_) (fun hc => ?_)
  · replace hh := OK_t hh hc
    refine A_blk hM.1 1 (lv1 := [some (aR 150), some (aI v1), some (aI v2), some (aI v3), none]) (s1 := [aI (-1)]) (h1 := h) rfl ?_
    exact A_reti hM.1 rfl rfl rfl (hq ((-1), h) hh)
  · replace hh := OK_f hh hc
    refine A_blk hM.1 2 (lv1 := [some (aR 150), some (aI v1), some (aI v2), some (aI v3), none]) (s1 := [aI v2, aR 150]) (h1 := h) rfl ?_
    refine A_callV hM rfl rfl (mem_GW 2086 (by decide +kernel) rfl) mi_X12_isBit (As := [aI v2]) (rest := []) (ct_X12_isBit v2 h (OK_bind hh)) (by decide) ⟨Nat.zero_le _, Nat.zero_le _⟩ rfl rfl (Nat.le_of_ble_eq_true rfl) (by decide) rfl (by decide) rfl (fun r F' h' hq1 => ?_)
    obtain ⟨rfl, r2, rfl, e9, hh⟩ := hq1
    subst h'
    refine A_ifc hM.1 rfl rfl (fun hc => ?_) (fun hc => ?_)
    · replace hh := OK_t hh hc
      refine A_blk hM.1 1 (lv1 := [some (aR 150), some (aI v1), some (aI v2), some (aI v3), none]) (s1 := [aI (-1)]) (h1 := h) rfl ?_
      exact A_reti hM.1 rfl rfl rfl (hq ((-1), h) hh)
    · replace hh := OK_f hh hc
      refine A_blk hM.1 2 (lv1 := [some (aR 150), some (aI v1), some (aI v2), some (aI v3), none]) (s1 := [aI (-1), aI v3]) (h1 := h) rfl ?_
      refine A_icmp hM.1 rfl rfl (fun hc => ?_) (fun hc => ?_)
      · replace hh := OK_t hh hc
        refine A_blk hM.1 3 (lv1 := [some (aR 150), some (aI v1), some (aI v2), some (aI v3), none]) (s1 := [aI v2, aI v1, aR 150]) (h1 := h) rfl ?_
        refine A_callV hM rfl rfl (mem_GW 2132 (by decide +kernel) rfl) mi_X12_standsBoth (As := [aI v1, aI v2]) (rest := []) (ct_X12_standsBoth v1 v2 h (OK_bind hh)) (by decide) ⟨Nat.zero_le _, Nat.zero_le _⟩ rfl rfl (Nat.le_of_ble_eq_true rfl) (by decide) rfl (by decide) rfl (fun r F' h' hq1 => ?_)
        obtain ⟨rfl, r3, rfl, e9, hh⟩ := hq1
        subst h'
        refine A_blk hM.1 3 (lv1 := [some (aR 150), some (aI v1), some (aI v2), some (aI v3), some (aI r3.1)]) (s1 := [aI (-1), aI v3]) (h1 := r3.2) rfl ?_
        refine A_icmp hM.1 rfl rfl (fun hc => ?_) (fun hc => ?_)
        · replace hh := OK_t hh hc
          refine A_blk hM.1 2 (lv1 := [some (aR 150), some (aI v1), some (aI v2), some (aI v3), some (aI r3.1)]) (s1 := [aI r3.1, aI v3]) (h1 := r3.2) rfl ?_
          refine A_icmp hM.1 rfl rfl (fun hc => ?_) (fun hc => ?_)
          · replace hh := OK_t hh hc
            refine A_blk hM.1 1 (lv1 := [some (aR 150), some (aI v1), some (aI v2), some (aI v3), some (aI r3.1)]) (s1 := [aI (-2)]) (h1 := r3.2) rfl ?_
            exact A_reti hM.1 rfl rfl rfl (hq ((-2), r3.2) hh)
          · replace hh := OK_f hh hc
            refine A_blk hM.1 3 (lv1 := [some (aR 150), some (aI v1), some (aI v2), some (aI v3), some (aI r3.1)]) (s1 := [aI v3, aR 184]) (h1 := r3.2) rfl ?_
            obtain ⟨g4, hh⟩ := OK_g hh
            refine A_ald hM.1 rfl (Or.inl ⟨rfl, rfl⟩) rfl (by decide) rfl g4 ?_
            refine A_go hM.1 rfl rfl ?_
            exact A_reti hM.1 rfl rfl rfl (hq (r3.2 184 ((w32 v3).toNat), r3.2) hh)
        · replace hh := OK_f hh hc
          refine A_blk hM.1 1 (lv1 := [some (aR 150), some (aI v1), some (aI v2), some (aI v3), some (aI r3.1)]) (s1 := [aI r3.1]) (h1 := r3.2) rfl ?_
          refine A_go hM.1 rfl rfl ?_
          exact A_reti hM.1 rfl rfl rfl (hq (r3.1, r3.2) hh)
      · replace hh := OK_f hh hc
        refine A_blk hM.1 1 (lv1 := [some (aR 150), some (aI v1), some (aI v2), some (aI v3), none]) (s1 := [aI (-1)]) (h1 := h) rfl ?_
        exact A_reti hM.1 rfl rfl rfl (hq ((-1), h) hh)

set_option maxRecDepth 20000 in
set_option maxHeartbeats 4000000 in
theorem ct_X12_stood {G : Gx} (v1 : Int) (v2 : Int) (v3 : Int) (h : Hp)   {P : (Int × Hp) → Prop} (hh : OK (X12_stood v1 v2 v3 h) P) : CT G yX12_stood M_X12_stood 4 0 0 FN h [aR 150, aI v1, aI v2, aI v3] (fun r F' h' => F' = FN ∧ ∃ z, r = some (aI z.1) ∧ h' = z.2 ∧ P z) :=
  CT.of (by decide +kernel) rfl (Nat.le_of_ble_eq_true rfl) k_X12_stood fun k0 _ _ hM => c_X12_stood hM v1 v2 v3 h (fun z hz => ⟨rfl, z, rfl, rfl, hz⟩) hh

theorem mi_X12_lays : MIv yX12_lays M_X12_lays 1 := ⟨⟨(mem_GW 2151 (by decide +kernel) rfl), (mem_GW 135 (by decide +kernel) rfl), by decide +kernel, by decide +kernel, by decide +kernel, by decide⟩, (mem_GW 2150 (by decide +kernel) rfl), (mem_GW 97 (by decide +kernel) rfl)⟩
set_option maxRecDepth 20000 in
set_option maxHeartbeats 4000000 in
theorem c_X12_lays_l2 {k0 : K0} {G : Gx} {Qp : Option AV → Fx → Hp → Prop} (hM : MB (KM k0 0 0 Qp) G M_X12_lays 3) (v1 : Int) (x : Int × Hp)   {P : ((Int × Hp) ⊕ (Hp)) → Prop} (hin : ∀ y : Int × Hp, P (.inl y) → ATk (KM k0 0 0 Qp) FN 0 0 M_X12_lays 2 [some (aR 150), some (aI v1), some (aI y.1), none, none, none] [] y.2) (hout0 : ∀ y : Hp, P (.inr y) → ATk (KM k0 0 0 Qp) FN 0 0 M_X12_lays 12 [some (aR 150), some (aI v1), none, none, none, none] [] y) (hh : OK (X12_lays_l2 v1 x) P) : ATk (KM k0 0 0 Qp) FN 0 0 M_X12_lays 2 [some (aR 150), some (aI v1), some (aI x.1), none, none, none] [] x.2 := by
  unfold X12_lays_l2 at hh
  refine A_blk hM.1 2 (lv1 := [some (aR 150), some (aI v1), some (aI x.1), none, none, none]) (s1 := [aI 320, aI x.1]) (h1 := x.2) rfl ?_
  refine A_icmp hM.1 rfl rfl (fun hc => ?_) (fun hc => ?_)
  · replace hh := OK_t hh hc
    refine A_mask [true, true, false, true, true, true] (lv1 := [some (aR 150), some (aI v1), none, none, none, none]) rfl ?_
    exact hout0 x.2 hh
  · replace hh := OK_f hh hc
    refine A_blk hM.1 4 (lv1 := [some (aR 150), some (aI v1), some (aI x.1), none, none, none]) (s1 := [aI (-1), aI x.1, aR 185]) (h1 := x.2) rfl ?_
    obtain ⟨g1, hh⟩ := OK_g hh
    refine A_ast hM.1 rfl (Or.inl ⟨rfl, rfl, rfl⟩) rfl rfl rfl g1 ?_
    refine A_blk hM.1 1 (lv1 := [some (aR 150), some (aI v1), some (aI (x.1 + 1)), none, none, none]) (s1 := []) (h1 := setH x.2 185 ((w32 x.1).toNat) (-1)) rfl ?_
    refine A_go hM.1 rfl rfl ?_
    exact hin (x.1 + 1, setH x.2 185 ((w32 x.1).toNat) (-1)) hh

set_option maxRecDepth 20000 in
set_option maxHeartbeats 4000000 in
theorem c_X12_lays_j76 {k0 : K0} {G : Gx} {Qp : Option AV → Fx → Hp → Prop} (hM : MB (KM k0 0 0 Qp) G M_X12_lays 3) (v1 : Int) (v2 : Int) (v4 : Int) (s0 : Int) (s1 : Int) (h : Hp)   {P : ((Int × Int × Hp) ⊕ (Int × Hp)) → Prop} (hin : ∀ y : Int × Int × Hp, P (.inl y) → ATk (KM k0 0 0 Qp) FN 0 0 M_X12_lays 46 [some (aR 150), some (aI v1), some (aI v2), some (aI y.1), some (aI y.2.1), none] [] y.2.2) (hout0 : ∀ y : Int × Hp, P (.inr y) → ATk (KM k0 0 0 Qp) FN 0 0 M_X12_lays 80 [some (aR 150), some (aI v1), some (aI v2), some (aI y.1), none, none] [] y.2) (hh : OK (X12_lays_j76 v1 v2 v4 s0 s1 h) P) : ATk (KM k0 0 0 Qp) FN 0 0 M_X12_lays 76 [some (aR 150), some (aI v1), some (aI v2), none, some (aI v4), none] [aI s1, aI s0] h := by
  unfold X12_lays_j76 at hh
  refine A_blk hM.1 3 (lv1 := [some (aR 150), some (aI v1), some (aI v2), some (aI (s0 + s1)), some (aI (v4 + 1)), none]) (s1 := []) (h1 := h) rfl ?_
  refine A_go hM.1 rfl rfl ?_
  exact hin (s0 + s1, v4 + 1, h) hh

set_option maxRecDepth 20000 in
set_option maxHeartbeats 4000000 in
theorem c_X12_lays_l46 {k0 : K0} {G : Gx} {Qp : Option AV → Fx → Hp → Prop} (hM : MB (KM k0 0 0 Qp) G M_X12_lays 3) (v1 : Int) (v2 : Int) (x : Int × Int × Hp)   {P : ((Int × Int × Hp) ⊕ (Int × Hp)) → Prop} (hin : ∀ y : Int × Int × Hp, P (.inl y) → ATk (KM k0 0 0 Qp) FN 0 0 M_X12_lays 46 [some (aR 150), some (aI v1), some (aI v2), some (aI y.1), some (aI y.2.1), none] [] y.2.2) (hout0 : ∀ y : Int × Hp, P (.inr y) → ATk (KM k0 0 0 Qp) FN 0 0 M_X12_lays 80 [some (aR 150), some (aI v1), some (aI v2), some (aI y.1), none, none] [] y.2) (hh : OK (X12_lays_l46 v1 v2 x) P) : ATk (KM k0 0 0 Qp) FN 0 0 M_X12_lays 46 [some (aR 150), some (aI v1), some (aI v2), some (aI x.1), some (aI x.2.1), none] [] x.2.2 := by
  unfold X12_lays_l46 at hh
  refine A_blk hM.1 4 (lv1 := [some (aR 150), some (aI v1), some (aI v2), some (aI x.1), some (aI x.2.1), none]) (s1 := [aI v2, aR 164, aI x.2.1]) (h1 := x.2.2) rfl ?_
  obtain ⟨g6, hh⟩ := OK_g hh
  refine A_ald hM.1 rfl (Or.inl ⟨rfl, rfl⟩) rfl (by decide) rfl g6 ?_
  refine A_icmp hM.1 rfl rfl (fun hc => ?_) (fun hc => ?_)
  · replace hh := OK_t hh hc
    refine A_mask [true, true, true, true, false, true] (lv1 := [some (aR 150), some (aI v1), some (aI v2), some (aI x.1), none, none]) rfl ?_
    exact hout0 (x.1, x.2.2) hh
  · replace hh := OK_f hh hc
    refine A_blk hM.1 8 (lv1 := [some (aR 150), some (aI v1), some (aI v2), some (aI x.1), some (aI x.2.1), none]) (s1 := [aI ((8 * v2) + x.2.1), aR 165, aI x.1]) (h1 := x.2.2) rfl ?_
    obtain ⟨g7, hh⟩ := OK_g hh
    refine A_ald hM.1 rfl (Or.inl ⟨rfl, rfl⟩) rfl (by decide) rfl g7 ?_
    refine A_blk hM.1 10 (lv1 := [some (aR 150), some (aI v1), some (aI v2), some (aI x.1), some (aI x.2.1), none]) (s1 := [aI (((40 * v1) + (x.2.2 150 62)) + x.2.1), aR 157, aI (x.2.2 165 ((w32 ((8 * v2) + x.2.1)).toNat)), aI x.1]) (h1 := x.2.2) rfl ?_
    obtain ⟨g8, hh⟩ := OK_g hh
    refine A_ald hM.1 rfl (Or.inl ⟨rfl, rfl⟩) rfl (by decide) rfl g8 ?_
    refine A_icmp hM.1 rfl rfl (fun hc => ?_) (fun hc => ?_)
    · replace hh := OK_t hh hc
      refine A_blk hM.1 1 (lv1 := [some (aR 150), some (aI v1), some (aI v2), some (aI x.1), some (aI x.2.1), none]) (s1 := [aI 0, aI x.1]) (h1 := x.2.2) rfl ?_
      refine A_mask [true, true, true, false, true, true] (lv1 := [some (aR 150), some (aI v1), some (aI v2), none, some (aI x.2.1), none]) rfl ?_
      exact c_X12_lays_j76 hM v1 v2 x.2.1 x.1 0 x.2.2 hin hout0 hh
    · replace hh := OK_f hh hc
      refine A_blk hM.1 1 (lv1 := [some (aR 150), some (aI v1), some (aI v2), some (aI x.1), some (aI x.2.1), none]) (s1 := [aI 1, aI x.1]) (h1 := x.2.2) rfl ?_
      refine A_go hM.1 rfl rfl ?_
      refine A_mask [true, true, true, false, true, true] (lv1 := [some (aR 150), some (aI v1), some (aI v2), none, some (aI x.2.1), none]) rfl ?_
      exact c_X12_lays_j76 hM v1 v2 x.2.1 x.1 1 x.2.2 hin hout0 hh

set_option maxRecDepth 20000 in
set_option maxHeartbeats 4000000 in
theorem c_X12_lays_j127 {k0 : K0} {G : Gx} {Qp : Option AV → Fx → Hp → Prop} (hM : MB (KM k0 0 0 Qp) G M_X12_lays 3) (v1 : Int) (v2 : Int) (v4 : Int) (s1 : Int) (s2 : Int) (h : Hp)   {P : ((Int × Hp) ⊕ (Hp)) → Prop} (hin : ∀ y : Int × Hp, P (.inl y) → ATk (KM k0 0 0 Qp) FN 0 0 M_X12_lays 87 [some (aR 150), some (aI v1), some (aI v2), none, some (aI y.1), none] [] y.2) (hout0 : ∀ y : Hp, P (.inr y) → ATk (KM k0 0 0 Qp) FN 0 0 M_X12_lays 130 [some (aR 150), some (aI v1), some (aI v2), none, none, none] [] y) (hh : OK (X12_lays_j127 v1 v2 v4 s1 s2 h) P) : ATk (KM k0 0 0 Qp) FN 0 0 M_X12_lays 127 [some (aR 150), some (aI v1), some (aI v2), none, some (aI v4), none] [aI s2, aI s1, aR 185] h := by
  unfold X12_lays_j127 at hh
  obtain ⟨g14, hh⟩ := OK_g hh
  refine A_ast hM.1 rfl (Or.inl ⟨rfl, rfl, rfl⟩) rfl rfl rfl g14 ?_
  refine A_blk hM.1 1 (lv1 := [some (aR 150), some (aI v1), some (aI v2), none, some (aI (v4 + 1)), none]) (s1 := []) (h1 := setH h 185 ((w32 s1).toNat) s2) rfl ?_
  refine A_go hM.1 rfl rfl ?_
  exact hin (v4 + 1, setH h 185 ((w32 s1).toNat) s2) hh

set_option maxRecDepth 20000 in
set_option maxHeartbeats 4000000 in
theorem c_X12_lays_l87 {k0 : K0} {G : Gx} {Qp : Option AV → Fx → Hp → Prop} (hM : MB (KM k0 0 0 Qp) G M_X12_lays 3) (v1 : Int) (v2 : Int) (x : Int × Hp)   {P : ((Int × Hp) ⊕ (Hp)) → Prop} (hin : ∀ y : Int × Hp, P (.inl y) → ATk (KM k0 0 0 Qp) FN 0 0 M_X12_lays 87 [some (aR 150), some (aI v1), some (aI v2), none, some (aI y.1), none] [] y.2) (hout0 : ∀ y : Hp, P (.inr y) → ATk (KM k0 0 0 Qp) FN 0 0 M_X12_lays 130 [some (aR 150), some (aI v1), some (aI v2), none, none, none] [] y) (hh : OK (X12_lays_l87 v1 v2 x) P) : ATk (KM k0 0 0 Qp) FN 0 0 M_X12_lays 87 [some (aR 150), some (aI v1), some (aI v2), none, some (aI x.1), none] [] x.2 := by
  unfold X12_lays_l87 at hh
  refine A_blk hM.1 4 (lv1 := [some (aR 150), some (aI v1), some (aI v2), none, some (aI x.1), none]) (s1 := [aI v2, aR 164, aI x.1]) (h1 := x.2) rfl ?_
  obtain ⟨g10, hh⟩ := OK_g hh
  refine A_ald hM.1 rfl (Or.inl ⟨rfl, rfl⟩) rfl (by decide) rfl g10 ?_
  refine A_icmp hM.1 rfl rfl (fun hc => ?_) (fun hc => ?_)
  · replace hh := OK_t hh hc
    refine A_mask [true, true, true, true, false, true] (lv1 := [some (aR 150), some (aI v1), some (aI v2), none, none, none]) rfl ?_
    exact hout0 x.2 hh
  · replace hh := OK_f hh hc
    refine A_blk hM.1 4 (lv1 := [some (aR 150), some (aI v1), some (aI v2), none, some (aI x.1), none]) (s1 := [aI v2, aR 160, aI 40]) (h1 := x.2) rfl ?_
    obtain ⟨g11, hh⟩ := OK_g hh
    refine A_ald hM.1 rfl (Or.inl ⟨rfl, rfl⟩) rfl (by decide) rfl g11 ?_
    refine A_blk hM.1 13 (lv1 := [some (aR 150), some (aI v1), some (aI v2), none, some (aI x.1), some (aI (((40 * (x.2 160 ((w32 v2).toNat))) + (x.2 150 62)) + x.1))]) (s1 := [aI (((40 * (x.2 160 ((w32 v2).toNat))) + (x.2 150 62)) + x.1), aR 185, aI (((40 * (x.2 160 ((w32 v2).toNat))) + (x.2 150 62)) + x.1), aR 185]) (h1 := x.2) rfl ?_
    obtain ⟨g12, hh⟩ := OK_g hh
    refine A_ald hM.1 rfl (Or.inl ⟨rfl, rfl⟩) rfl (by decide) rfl g12 ?_
    refine A_blk hM.1 1 (lv1 := [some (aR 150), some (aI v1), some (aI v2), none, some (aI x.1), some (aI (((40 * (x.2 160 ((w32 v2).toNat))) + (x.2 150 62)) + x.1))]) (s1 := [aI (-1), aI (x.2 185 ((w32 (((40 * (x.2 160 ((w32 v2).toNat))) + (x.2 150 62)) + x.1)).toNat)), aI (((40 * (x.2 160 ((w32 v2).toNat))) + (x.2 150 62)) + x.1), aR 185]) (h1 := x.2) rfl ?_
    refine A_icmp hM.1 rfl rfl (fun hc => ?_) (fun hc => ?_)
    · replace hh := OK_t hh hc
      refine A_blk hM.1 3 (lv1 := [some (aR 150), some (aI v1), some (aI v2), none, some (aI x.1), some (aI (((40 * (x.2 160 ((w32 v2).toNat))) + (x.2 150 62)) + x.1))]) (s1 := [aI (((40 * (x.2 160 ((w32 v2).toNat))) + (x.2 150 62)) + x.1), aR 185, aI (((40 * (x.2 160 ((w32 v2).toNat))) + (x.2 150 62)) + x.1), aR 185]) (h1 := x.2) rfl ?_
      obtain ⟨g13, hh⟩ := OK_g hh
      refine A_ald hM.1 rfl (Or.inl ⟨rfl, rfl⟩) rfl (by decide) rfl g13 ?_
      refine A_mask [true, true, true, true, true, false] (lv1 := [some (aR 150), some (aI v1), some (aI v2), none, some (aI x.1), none]) rfl ?_
      exact c_X12_lays_j127 hM v1 v2 x.1 (((40 * (x.2 160 ((w32 v2).toNat))) + (x.2 150 62)) + x.1) (x.2 185 ((w32 (((40 * (x.2 160 ((w32 v2).toNat))) + (x.2 150 62)) + x.1)).toNat)) x.2 hin hout0 hh
    · replace hh := OK_f hh hc
      refine A_blk hM.1 7 (lv1 := [some (aR 150), some (aI v1), some (aI v2), none, some (aI x.1), some (aI (((40 * (x.2 160 ((w32 v2).toNat))) + (x.2 150 62)) + x.1))]) (s1 := [aI ((8 * v2) + x.1), aR 165, aI (((40 * (x.2 160 ((w32 v2).toNat))) + (x.2 150 62)) + x.1), aR 185]) (h1 := x.2) rfl ?_
      obtain ⟨g15, hh⟩ := OK_g hh
      refine A_ald hM.1 rfl (Or.inl ⟨rfl, rfl⟩) rfl (by decide) rfl g15 ?_
      refine A_go hM.1 rfl rfl ?_
      refine A_mask [true, true, true, true, true, false] (lv1 := [some (aR 150), some (aI v1), some (aI v2), none, some (aI x.1), none]) rfl ?_
      exact c_X12_lays_j127 hM v1 v2 x.1 (((40 * (x.2 160 ((w32 v2).toNat))) + (x.2 150 62)) + x.1) (x.2 165 ((w32 ((8 * v2) + x.1)).toNat)) x.2 hin hout0 hh

set_option maxRecDepth 20000 in
set_option maxHeartbeats 4000000 in
theorem c_X12_lays_j130 {k0 : K0} {G : Gx} {Qp : Option AV → Fx → Hp → Prop} (hM : MB (KM k0 0 0 Qp) G M_X12_lays 3) (v1 : Int) (v2 : Int) (h : Hp)   {P : ((Int × Hp) ⊕ (Hp)) → Prop} (hin : ∀ y : Int × Hp, P (.inl y) → ATk (KM k0 0 0 Qp) FN 0 0 M_X12_lays 14 [some (aR 150), some (aI v1), some (aI y.1), none, none, none] [] y.2) (hout0 : ∀ y : Hp, P (.inr y) → ATk (KM k0 0 0 Qp) FN 0 0 M_X12_lays 132 [none, none, none, none, none, none] [] y) (hh : OK (X12_lays_j130 v1 v2 h) P) : ATk (KM k0 0 0 Qp) FN 0 0 M_X12_lays 130 [some (aR 150), some (aI v1), some (aI v2), none, none, none] [] h := by
  unfold X12_lays_j130 at hh
  refine A_blk hM.1 1 (lv1 := [some (aR 150), some (aI v1), some (aI (v2 + 1)), none, none, none]) (s1 := []) (h1 := h) rfl ?_
  refine A_go hM.1 rfl rfl ?_
  exact hin (v2 + 1, h) hh

set_option maxRecDepth 20000 in
set_option maxHeartbeats 4000000 in
theorem c_X12_lays_l14 {k0 : K0} {G : Gx} {Qp : Option AV → Fx → Hp → Prop} (hM : MB (KM k0 0 0 Qp) G M_X12_lays 3) (v1 : Int) (x : Int × Hp)   {P : ((Int × Hp) ⊕ (Hp)) → Prop} (hin : ∀ y : Int × Hp, P (.inl y) → ATk (KM k0 0 0 Qp) FN 0 0 M_X12_lays 14 [some (aR 150), some (aI v1), some (aI y.1), none, none, none] [] y.2) (hout0 : ∀ y : Hp, P (.inr y) → ATk (KM k0 0 0 Qp) FN 0 0 M_X12_lays 132 [none, none, none, none, none, none] [] y) (hh : OK (X12_lays_l14 v1 x) P) : ATk (KM k0 0 0 Qp) FN 0 0 M_X12_lays 14 [some (aR 150), some (aI v1), some (aI x.1), none, none, none] [] x.2 := by
  unfold X12_lays_l14 at hh
  refine A_blk hM.1 3 (lv1 := [some (aR 150), some (aI v1), some (aI x.1), none, none, none]) (s1 := [aI (x.2 150 5), aI x.1]) (h1 := x.2) rfl ?_
  refine A_icmp hM.1 rfl rfl (fun hc => ?_) (fun hc => ?_)
  · replace hh := OK_t hh hc
    refine A_mask [false, false, false, true, true, true] (lv1 := [none, none, none, none, none, none]) rfl ?_
    exact hout0 x.2 hh
  · replace hh := OK_f hh hc
    refine A_blk hM.1 3 (lv1 := [some (aR 150), some (aI v1), some (aI x.1), none, none, none]) (s1 := [aI x.1, aR 161]) (h1 := x.2) rfl ?_
    obtain ⟨g3, hh⟩ := OK_g hh
    refine A_ald hM.1 rfl (Or.inl ⟨rfl, rfl⟩) rfl (by decide) rfl g3 ?_
    refine A_blk hM.1 1 (lv1 := [some (aR 150), some (aI v1), some (aI x.1), none, none, none]) (s1 := [aI v1, aI (x.2 161 ((w32 x.1).toNat))]) (h1 := x.2) rfl ?_
    refine A_icmp hM.1 rfl rfl (fun hc => ?_) (fun hc => ?_)
    · replace hh := OK_t hh hc
      refine A_blk hM.1 3 (lv1 := [some (aR 150), some (aI v1), some (aI x.1), none, none, none]) (s1 := [aI v1, aI x.1, aR 150]) (h1 := x.2) rfl ?_
      refine A_callV hM rfl rfl (mem_GW 2111 (by decide +kernel) rfl) mi_X12_nears (As := [aI x.1, aI v1]) (rest := []) (ct_X12_nears x.1 v1 x.2 (OK_bind hh)) (by decide) ⟨Nat.zero_le _, Nat.zero_le _⟩ rfl rfl (Nat.le_of_ble_eq_true rfl) (by decide) rfl (by decide) rfl (fun r F' h' hq1 => ?_)
      obtain ⟨rfl, rfl, hh⟩ := hq1
      obtain ⟨r4, rfl⟩ : ∃ z, z = h' := ⟨_, rfl⟩
      refine A_blk hM.1 10 (lv1 := [some (aR 150), some (aI v1), some (aI x.1), none, none, none]) (s1 := [aI x.1, aR 164, aI (((r4 150 63) - (r4 150 62)) + 1)]) (h1 := r4) rfl ?_
      obtain ⟨g5, hh⟩ := OK_g hh
      refine A_ald hM.1 rfl (Or.inl ⟨rfl, rfl⟩) rfl (by decide) rfl g5 ?_
      refine A_icmp hM.1 rfl rfl (fun hc => ?_) (fun hc => ?_)
      · replace hh := OK_t hh hc
        refine A_blk hM.1 4 (lv1 := [some (aR 150), some (aI v1), some (aI x.1), some (aI 0), some (aI 0), none]) (s1 := []) (h1 := r4) rfl ?_
        refine iter_ok (s := (0, 0, r4)) (Gp := fun z => ATk (KM k0 0 0 Qp) FN 0 0 M_X12_lays 46 [some (aR 150), some (aI v1), some (aI x.1), some (aI z.1), some (aI z.2.1), none] [] z.2.2) (E := fun z => ATk (KM k0 0 0 Qp) FN 0 0 M_X12_lays 80 [some (aR 150), some (aI v1), some (aI x.1), some (aI z.1), none, none] [] z.2) (fun z P1 g1 g2 g3 => c_X12_lays_l46 hM v1 x.1 z g2 g3 g1) (OK_bind hh) (fun x9 hh => ?_)
        refine A_blk hM.1 3 (lv1 := [some (aR 150), some (aI v1), some (aI x.1), some (aI x9.1), none, none]) (s1 := [aI (x9.2 150 61), aI x9.1]) (h1 := x9.2) rfl ?_
        refine A_icmp hM.1 rfl rfl (fun hc => ?_) (fun hc => ?_)
        · replace hh := OK_t hh hc
          refine A_blk hM.1 2 (lv1 := [some (aR 150), some (aI v1), some (aI x.1), some (aI x9.1), some (aI 0), none]) (s1 := []) (h1 := x9.2) rfl ?_
          refine A_mask [true, true, true, false, true, true] (lv1 := [some (aR 150), some (aI v1), some (aI x.1), none, some (aI 0), none]) rfl ?_
          refine iter_ok (s := (0, x9.2)) (Gp := fun z => ATk (KM k0 0 0 Qp) FN 0 0 M_X12_lays 87 [some (aR 150), some (aI v1), some (aI x.1), none, some (aI z.1), none] [] z.2) (E := fun z => ATk (KM k0 0 0 Qp) FN 0 0 M_X12_lays 130 [some (aR 150), some (aI v1), some (aI x.1), none, none, none] [] z) (fun z P1 g1 g2 g3 => c_X12_lays_l87 hM v1 x.1 z g2 g3 g1) (OK_bind hh) (fun x16 hh => ?_)
          exact c_X12_lays_j130 hM v1 x.1 x16 hin hout0 hh
        · replace hh := OK_f hh hc
          refine A_go hM.1 rfl rfl ?_
          refine A_mask [true, true, true, false, true, true] (lv1 := [some (aR 150), some (aI v1), some (aI x.1), none, none, none]) rfl ?_
          exact c_X12_lays_j130 hM v1 x.1 x9.2 hin hout0 hh
      · replace hh := OK_f hh hc
        refine A_go hM.1 rfl rfl ?_
        exact c_X12_lays_j130 hM v1 x.1 r4 hin hout0 hh
    · replace hh := OK_f hh hc
      refine A_go hM.1 rfl rfl ?_
      exact c_X12_lays_j130 hM v1 x.1 x.2 hin hout0 hh

set_option maxRecDepth 20000 in
set_option maxHeartbeats 4000000 in
theorem c_X12_lays {k0 : K0} {G : Gx} {Qp : Option AV → Fx → Hp → Prop} (hM : MB (KM k0 0 0 Qp) G M_X12_lays 3) (v1 : Int) (h : Hp)   {P : Hp → Prop} (hq : ∀ z : Hp, P z → Qp none FN z) (hh : OK (X12_lays v1 h) P) : ATk (KM k0 0 0 Qp) FN 0 0 M_X12_lays 0 [some (aR 150), some (aI v1), none, none, none, none] [] h := by
  unfold X12_lays at hh
  refine A_blk hM.1 2 (lv1 := [some (aR 150), some (aI v1), some (aI 0), none, none, none]) (s1 := []) (h1 := h) rfl ?_
  refine iter_ok (s := (0, h)) (Gp := fun z => ATk (KM k0 0 0 Qp) FN 0 0 M_X12_lays 2 [some (aR 150), some (aI v1), some (aI z.1), none, none, none] [] z.2) (E := fun z => ATk (KM k0 0 0 Qp) FN 0 0 M_X12_lays 12 [some (aR 150), some (aI v1), none, none, none, none] [] z) (fun z P1 g1 g2 g3 => c_X12_lays_l2 hM v1 z g2 g3 g1) (OK_bind hh) (fun x2 hh => ?_)
  refine A_blk hM.1 2 (lv1 := [some (aR 150), some (aI v1), some (aI 0), none, none, none]) (s1 := []) (h1 := x2) rfl ?_
  refine iter_ok (s := (0, x2)) (Gp := fun z => ATk (KM k0 0 0 Qp) FN 0 0 M_X12_lays 14 [some (aR 150), some (aI v1), some (aI z.1), none, none, none] [] z.2) (E := fun z => ATk (KM k0 0 0 Qp) FN 0 0 M_X12_lays 132 [none, none, none, none, none, none] [] z) (fun z P1 g1 g2 g3 => c_X12_lays_l14 hM v1 z g2 g3 g1) (OK_bind hh) (fun x17 hh => ?_)
  exact A_retv hM.1 rfl rfl rfl (hq x17 hh)

set_option maxRecDepth 20000 in
set_option maxHeartbeats 4000000 in
theorem ct_X12_lays {G : Gx} (v1 : Int) (h : Hp)   {P : Hp → Prop} (hh : OK (X12_lays v1 h) P) : CT G yX12_lays M_X12_lays 3 0 0 FN h [aR 150, aI v1] (fun r F' h' => F' = FN ∧ r = none ∧ P h') :=
  CT.of (by decide +kernel) rfl (Nat.le_of_ble_eq_true rfl) k_X12_lays fun k0 _ _ hM => c_X12_lays hM v1 h (fun z hz => ⟨rfl, rfl, hz⟩) hh

theorem mi_X12_hasPlace : MIv yX12_hasPlace M_X12_hasPlace 2 := ⟨⟨(mem_GW 2163 (by decide +kernel) rfl), (mem_GW 135 (by decide +kernel) rfl), by decide +kernel, by decide +kernel, by decide +kernel, by decide⟩, (mem_GW 2162 (by decide +kernel) rfl), (mem_GW 100 (by decide +kernel) rfl)⟩
set_option maxRecDepth 20000 in
set_option maxHeartbeats 4000000 in
theorem c_X12_hasPlace {k0 : K0} {G : Gx} {Qp : Option AV → Fx → Hp → Prop} (hM : MB (KM k0 0 0 Qp) G M_X12_hasPlace 1) (v1 : Int) (v2 : Int) (h : Hp)   {P : Int → Prop} (hq : ∀ z : Int, P z → Qp (some (aI z)) FN h) (hh : OK (X12_hasPlace v1 v2 h) P) : ATk (KM k0 0 0 Qp) FN 0 0 M_X12_hasPlace 0 [some (aR 150), some (aI v1), some (aI v2)] [] h := by
  unfold X12_hasPlace at hh
  refine A_blk hM.1 7 (lv1 := [some (aR 150), some (aI v1), some (aI v2)]) (s1 := [aI ((40 * v1) + v2), aR 185]) (h1 := h) rfl ?_
  obtain ⟨g1, hh⟩ := OK_g hh
  refine A_ald hM.1 rfl (Or.inl ⟨rfl, rfl⟩) rfl (by decide) rfl g1 ?_
  refine A_blk hM.1 1 (lv1 := [some (aR 150), some (aI v1), some (aI v2)]) (s1 := [aI (-1), aI (h 185 ((w32 ((40 * v1) + v2)).toNat))]) (h1 := h) rfl ?_
  refine A_icmp hM.1 rfl rfl (fun hc => ?_) (fun hc => ?_)
  · replace hh := OK_t hh hc
    refine A_blk hM.1 1 (lv1 := [some (aR 150), some (aI v1), some (aI v2)]) (s1 := [aI 0]) (h1 := h) rfl ?_
    exact A_retz hM.1 rfl rfl rfl (by decide) (hq 0 hh)
  · replace hh := OK_f hh hc
    refine A_blk hM.1 1 (lv1 := [some (aR 150), some (aI v1), some (aI v2)]) (s1 := [aI 1]) (h1 := h) rfl ?_
    refine A_go hM.1 rfl rfl ?_
    exact A_retz hM.1 rfl rfl rfl (by decide) (hq 1 hh)

set_option maxRecDepth 20000 in
set_option maxHeartbeats 4000000 in
theorem ct_X12_hasPlace {G : Gx} (v1 : Int) (v2 : Int) (h : Hp)   {P : Int → Prop} (hh : OK (X12_hasPlace v1 v2 h) P) : CT G yX12_hasPlace M_X12_hasPlace 1 0 0 FN h [aR 150, aI v1, aI v2] (fun r F' h' => F' = FN ∧ ∃ z, r = some (aI z) ∧ h' = h ∧ P z) :=
  CT.of (by decide +kernel) rfl (Nat.le_of_ble_eq_true rfl) k_X12_hasPlace fun k0 _ _ hM => c_X12_hasPlace hM v1 v2 h (fun z hz => ⟨rfl, z, rfl, rfl, hz⟩) hh

theorem mi_X12_slipsAt : MIv yX12_slipsAt M_X12_slipsAt 3 := ⟨⟨(mem_GW 2159 (by decide +kernel) rfl), (mem_GW 135 (by decide +kernel) rfl), by decide +kernel, by decide +kernel, by decide +kernel, by decide⟩, (mem_GW 2158 (by decide +kernel) rfl), (mem_GW 99 (by decide +kernel) rfl)⟩
set_option maxRecDepth 20000 in
set_option maxHeartbeats 4000000 in
theorem c_X12_slipsAt {k0 : K0} {G : Gx} {Qp : Option AV → Fx → Hp → Prop} (hM : MB (KM k0 0 0 Qp) G M_X12_slipsAt 2) (v1 : Int) (v2 : Int) (v3 : Int) (h : Hp)   {P : Int → Prop} (hq : ∀ z : Int, P z → Qp (some (aI z)) FN h) (hh : OK (X12_slipsAt v1 v2 v3 h) P) : ATk (KM k0 0 0 Qp) FN 0 0 M_X12_slipsAt 0 [some (aR 150), some (aI v1), some (aI v2), some (aI v3)] [] h := by
  unfold X12_slipsAt at hh
  refine A_blk hM.1 3 (lv1 := [some (aR 150), some (aI v1), some (aI v2), some (aI v3)]) (s1 := [aI v3, aI v1, aR 150]) (h1 := h) rfl ?_
  refine A_callV hM rfl rfl (mem_GW 2160 (by decide +kernel) rfl) mi_X12_hasPlace (As := [aI v1, aI v3]) (rest := []) (ct_X12_hasPlace v1 v3 h (OK_bind hh)) (by decide) ⟨Nat.zero_le _, Nat.zero_le _⟩ rfl rfl (Nat.le_of_ble_eq_true rfl) (by decide) rfl (by decide) rfl (fun r F' h' hq1 => ?_)
  obtain ⟨rfl, r1, rfl, e9, hh⟩ := hq1
  subst h'
  refine A_ifc hM.1 rfl rfl (fun hc => ?_) (fun hc => ?_)
  · replace hh := OK_t hh hc
    refine A_blk hM.1 1 (lv1 := [some (aR 150), some (aI v1), some (aI v2), some (aI v3)]) (s1 := [aI 0]) (h1 := h) rfl ?_
    exact A_retz hM.1 rfl rfl rfl (by decide) (hq 0 hh)
  · replace hh := OK_f hh hc
    refine A_blk hM.1 7 (lv1 := [some (aR 150), some (aI v1), some (aI v2), some (aI v3)]) (s1 := [aI ((40 * v1) + v3), aR 185]) (h1 := h) rfl ?_
    obtain ⟨g2, hh⟩ := OK_g hh
    refine A_ald hM.1 rfl (Or.inl ⟨rfl, rfl⟩) rfl (by decide) rfl g2 ?_
    refine A_blk hM.1 7 (lv1 := [some (aR 150), some (aI v1), some (aI v2), some (aI v3)]) (s1 := [aI ((40 * v2) + v3), aR 157, aI (h 185 ((w32 ((40 * v1) + v3)).toNat))]) (h1 := h) rfl ?_
    obtain ⟨g3, hh⟩ := OK_g hh
    refine A_ald hM.1 rfl (Or.inl ⟨rfl, rfl⟩) rfl (by decide) rfl g3 ?_
    refine A_icmp hM.1 rfl rfl (fun hc => ?_) (fun hc => ?_)
    · replace hh := OK_t hh hc
      refine A_blk hM.1 1 (lv1 := [some (aR 150), some (aI v1), some (aI v2), some (aI v3)]) (s1 := [aI 0]) (h1 := h) rfl ?_
      exact A_retz hM.1 rfl rfl rfl (by decide) (hq 0 hh)
    · replace hh := OK_f hh hc
      refine A_blk hM.1 1 (lv1 := [some (aR 150), some (aI v1), some (aI v2), some (aI v3)]) (s1 := [aI 1]) (h1 := h) rfl ?_
      refine A_go hM.1 rfl rfl ?_
      exact A_retz hM.1 rfl rfl rfl (by decide) (hq 1 hh)

set_option maxRecDepth 20000 in
set_option maxHeartbeats 4000000 in
theorem ct_X12_slipsAt {G : Gx} (v1 : Int) (v2 : Int) (v3 : Int) (h : Hp)   {P : Int → Prop} (hh : OK (X12_slipsAt v1 v2 v3 h) P) : CT G yX12_slipsAt M_X12_slipsAt 2 0 0 FN h [aR 150, aI v1, aI v2, aI v3] (fun r F' h' => F' = FN ∧ ∃ z, r = some (aI z) ∧ h' = h ∧ P z) :=
  CT.of (by decide +kernel) rfl (Nat.le_of_ble_eq_true rfl) k_X12_slipsAt fun k0 _ _ hM => c_X12_slipsAt hM v1 v2 v3 h (fun z hz => ⟨rfl, z, rfl, rfl, hz⟩) hh

theorem mi_X12_placesOf : MIv yX12_placesOf M_X12_placesOf 1 := ⟨⟨(mem_GW 2170 (by decide +kernel) rfl), (mem_GW 135 (by decide +kernel) rfl), by decide +kernel, by decide +kernel, by decide +kernel, by decide⟩, (mem_GW 2169 (by decide +kernel) rfl), (mem_GW 101 (by decide +kernel) rfl)⟩
set_option maxRecDepth 20000 in
set_option maxHeartbeats 4000000 in
theorem c_X12_placesOf_j18 {k0 : K0} {G : Gx} {Qp : Option AV → Fx → Hp → Prop} (hM : MB (KM k0 0 0 Qp) G M_X12_placesOf 2) (v1 : Int) (v4 : Int) (s0 : Int) (s1 : Int) (h : Hp)   {P : ((Int × Int) ⊕ (Int)) → Prop} (hin : ∀ y : Int × Int, P (.inl y) → ATk (KM k0 0 0 Qp) FN 0 0 M_X12_placesOf 4 [some (aR 150), some (aI v1), some (aL y.1), none, some (aI y.2)] [] h) (hout0 : ∀ y : Int, P (.inr y) → ATk (KM k0 0 0 Qp) FN 0 0 M_X12_placesOf 22 [none, none, some (aL y), none, none] [] h) (hh : OK (X12_placesOf_j18 v1 v4 s0 s1 h) P) : ATk (KM k0 0 0 Qp) FN 0 0 M_X12_placesOf 18 [some (aR 150), some (aI v1), none, none, some (aI v4)] [aL s1, aL s0] h := by
  unfold X12_placesOf_j18 at hh
  refine A_blk hM.1 3 (lv1 := [some (aR 150), some (aI v1), some (aL (or64 s0 s1)), none, some (aI (v4 + 1))]) (s1 := []) (h1 := h) rfl ?_
  refine A_go hM.1 rfl rfl ?_
  exact hin (or64 s0 s1, v4 + 1) hh

set_option maxRecDepth 20000 in
set_option maxHeartbeats 4000000 in
theorem c_X12_placesOf_l4 {k0 : K0} {G : Gx} {Qp : Option AV → Fx → Hp → Prop} (hM : MB (KM k0 0 0 Qp) G M_X12_placesOf 2) (v1 : Int) (h : Hp) (x : Int × Int)   {P : ((Int × Int) ⊕ (Int)) → Prop} (hin : ∀ y : Int × Int, P (.inl y) → ATk (KM k0 0 0 Qp) FN 0 0 M_X12_placesOf 4 [some (aR 150), some (aI v1), some (aL y.1), none, some (aI y.2)] [] h) (hout0 : ∀ y : Int, P (.inr y) → ATk (KM k0 0 0 Qp) FN 0 0 M_X12_placesOf 22 [none, none, some (aL y), none, none] [] h) (hh : OK (X12_placesOf_l4 v1 h x) P) : ATk (KM k0 0 0 Qp) FN 0 0 M_X12_placesOf 4 [some (aR 150), some (aI v1), some (aL x.1), none, some (aI x.2)] [] h := by
  unfold X12_placesOf_l4 at hh
  refine A_blk hM.1 2 (lv1 := [some (aR 150), some (aI v1), some (aL x.1), none, some (aI x.2)]) (s1 := [aI 40, aI x.2]) (h1 := h) rfl ?_
  refine A_icmp hM.1 rfl rfl (fun hc => ?_) (fun hc => ?_)
  · replace hh := OK_t hh hc
    refine A_mask [false, false, true, true, false] (lv1 := [none, none, some (aL x.1), none, none]) rfl ?_
    exact hout0 x.1 hh
  · replace hh := OK_f hh hc
    refine A_blk hM.1 4 (lv1 := [some (aR 150), some (aI v1), some (aL x.1), none, some (aI x.2)]) (s1 := [aI x.2, aI v1, aR 150, aL x.1]) (h1 := h) rfl ?_
    refine A_callV hM rfl rfl (mem_GW 2160 (by decide +kernel) rfl) mi_X12_hasPlace (As := [aI v1, aI x.2]) (rest := [aL x.1]) (ct_X12_hasPlace v1 x.2 h (OK_bind hh)) (by decide) ⟨Nat.zero_le _, Nat.zero_le _⟩ rfl rfl (Nat.le_of_ble_eq_true rfl) (by decide) rfl (by decide) rfl (fun r F' h' hq1 => ?_)
    obtain ⟨rfl, r1, rfl, e9, hh⟩ := hq1
    subst h'
    refine A_ifc hM.1 rfl rfl (fun hc => ?_) (fun hc => ?_)
    · replace hh := OK_t hh hc
      refine A_blk hM.1 1 (lv1 := [some (aR 150), some (aI v1), some (aL x.1), none, some (aI x.2)]) (s1 := [aL 0, aL x.1]) (h1 := h) rfl ?_
      refine A_mask [true, true, false, true, true] (lv1 := [some (aR 150), some (aI v1), none, none, some (aI x.2)]) rfl ?_
      exact c_X12_placesOf_j18 hM v1 x.2 x.1 0 h hin hout0 hh
    · replace hh := OK_f hh hc
      refine A_blk hM.1 3 (lv1 := [some (aR 150), some (aI v1), some (aL x.1), none, some (aI x.2)]) (s1 := [aL (shl64 1 x.2), aL x.1]) (h1 := h) rfl ?_
      refine A_go hM.1 rfl rfl ?_
      refine A_mask [true, true, false, true, true] (lv1 := [some (aR 150), some (aI v1), none, none, some (aI x.2)]) rfl ?_
      exact c_X12_placesOf_j18 hM v1 x.2 x.1 (shl64 1 x.2) h hin hout0 hh

set_option maxRecDepth 20000 in
set_option maxHeartbeats 4000000 in
theorem c_X12_placesOf {k0 : K0} {G : Gx} {Qp : Option AV → Fx → Hp → Prop} (hM : MB (KM k0 0 0 Qp) G M_X12_placesOf 2) (v1 : Int) (h : Hp)   {P : Int → Prop} (hq : ∀ z : Int, P z → Qp (some (aL z)) FN h) (hh : OK (X12_placesOf v1 h) P) : ATk (KM k0 0 0 Qp) FN 0 0 M_X12_placesOf 0 [some (aR 150), some (aI v1), none, none, none] [] h := by
  unfold X12_placesOf at hh
  refine A_blk hM.1 4 (lv1 := [some (aR 150), some (aI v1), some (aL 0), none, some (aI 0)]) (s1 := []) (h1 := h) rfl ?_
  refine iter_ok (s := (0, 0)) (Gp := fun z => ATk (KM k0 0 0 Qp) FN 0 0 M_X12_placesOf 4 [some (aR 150), some (aI v1), some (aL z.1), none, some (aI z.2)] [] h) (E := fun z => ATk (KM k0 0 0 Qp) FN 0 0 M_X12_placesOf 22 [none, none, some (aL z), none, none] [] h) (fun z P1 g1 g2 g3 => c_X12_placesOf_l4 hM v1 h z g2 g3 g1) (OK_bind hh) (fun x2 hh => ?_)
  refine A_blk hM.1 1 (lv1 := [none, none, some (aL x2), none, none]) (s1 := [aL x2]) (h1 := h) rfl ?_
  exact A_retl hM.1 rfl rfl rfl (hq x2 hh)

set_option maxRecDepth 20000 in
set_option maxHeartbeats 4000000 in
theorem ct_X12_placesOf {G : Gx} (v1 : Int) (h : Hp)   {P : Int → Prop} (hh : OK (X12_placesOf v1 h) P) : CT G yX12_placesOf M_X12_placesOf 2 0 0 FN h [aR 150, aI v1] (fun r F' h' => F' = FN ∧ ∃ z, r = some (aL z) ∧ h' = h ∧ P z) :=
  CT.of (by decide +kernel) rfl (Nat.le_of_ble_eq_true rfl) k_X12_placesOf fun k0 _ _ hM => c_X12_placesOf hM v1 h (fun z hz => ⟨rfl, z, rfl, rfl, hz⟩) hh

