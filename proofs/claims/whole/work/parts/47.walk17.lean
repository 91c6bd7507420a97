set_option linter.all false
theorem mi_X12_fromOf : MIv yX12_fromOf M_X12_fromOf 2 := ⟨⟨(mem_GW 2205 (by decide +kernel) rfl), (mem_GW 135 (by decide +kernel) rfl), by decide +kernel, by decide +kernel, by decide +kernel, by decide⟩, (mem_GW 2204 (by decide +kernel) rfl), (mem_GW 103 (by decide +kernel) rfl)⟩
set_option maxRecDepth 20000 in
set_option maxHeartbeats 4000000 in
theorem c_X12_fromOf_j109 {k0 : K0} {G : Gx} {Qp : Option AV → Fx → Hp → Prop} (hM : MB (KM k0 0 0 Qp) G M_X12_fromOf 4) (v1 : Int) (v2 : Int) (v3 : Int) (v4 : Int) (v6 : Int) (h : Hp)   {P : ((Int × Int × Hp) ⊕ (Int × Hp)) → Prop} (hin : ∀ y : Int × Int × Hp, P (.inl y) → ATk (KM k0 0 0 Qp) FN 0 0 M_X12_fromOf 15 [some (aR 150), some (aI v1), some (aI v2), some (aI y.1), some (aL v4), none, some (aI y.2.1), none, none] [] y.2.2) (hout0 : ∀ y : Int × Hp, P (.inr y) → ATk (KM k0 0 0 Qp) FN 0 0 M_X12_fromOf 111 [none, none, none, some (aI y.1), none, none, none, none, none] [] y.2) (hh : OK (X12_fromOf_j109 v1 v2 v3 v4 v6 h) P) : ATk (KM k0 0 0 Qp) FN 0 0 M_X12_fromOf 109 [some (aR 150), some (aI v1), some (aI v2), some (aI v3), some (aL v4), none, some (aI v6), none, none] [] h := by
  unfold X12_fromOf_j109 at hh
  refine A_blk hM.1 1 (lv1 := [some (aR 150), some (aI v1), some (aI v2), some (aI v3), some (aL v4), none, some (aI (v6 + 1)), none, none]) (s1 := []) (h1 := h) rfl ?_
  refine A_go hM.1 rfl rfl ?_
  exact hin (v3, v6 + 1, h) hh

set_option maxRecDepth 20000 in
set_option maxHeartbeats 4000000 in
theorem c_X12_fromOf_j97 {k0 : K0} {G : Gx} {Qp : Option AV → Fx → Hp → Prop} (hM : MB (KM k0 0 0 Qp) G M_X12_fromOf 4) (v1 : Int) (v2 : Int) (v3 : Int) (v4 : Int) (v6 : Int) (v7 : Int) (v8 : Int) (h : Hp)   {P : ((Int × Int × Hp) ⊕ (Int × Hp)) → Prop} (hin : ∀ y : Int × Int × Hp, P (.inl y) → ATk (KM k0 0 0 Qp) FN 0 0 M_X12_fromOf 43 [some (aR 150), some (aI v1), some (aI v2), some (aI v3), some (aL v4), none, some (aI v6), some (aI y.1), some (aI y.2.1)] [] y.2.2) (hout0 : ∀ y : Int × Hp, P (.inr y) → ATk (KM k0 0 0 Qp) FN 0 0 M_X12_fromOf 99 [some (aR 150), some (aI v1), some (aI v2), some (aI v3), some (aL v4), none, some (aI v6), some (aI y.1), none] [] y.2) (hh : OK (X12_fromOf_j97 v1 v2 v3 v4 v6 v7 v8 h) P) : ATk (KM k0 0 0 Qp) FN 0 0 M_X12_fromOf 97 [some (aR 150), some (aI v1), some (aI v2), some (aI v3), some (aL v4), none, some (aI v6), some (aI v7), some (aI v8)] [] h := by
  unfold X12_fromOf_j97 at hh
  refine A_blk hM.1 1 (lv1 := [some (aR 150), some (aI v1), some (aI v2), some (aI v3), some (aL v4), none, some (aI v6), some (aI v7), some (aI (v8 + 1))]) (s1 := []) (h1 := h) rfl ?_
  refine A_go hM.1 rfl rfl ?_
  exact hin (v7, v8 + 1, h) hh

set_option maxRecDepth 20000 in
set_option maxHeartbeats 4000000 in
theorem c_X12_fromOf_j95 {k0 : K0} {G : Gx} {Qp : Option AV → Fx → Hp → Prop} (hM : MB (KM k0 0 0 Qp) G M_X12_fromOf 4) (v1 : Int) (v2 : Int) (v3 : Int) (v4 : Int) (v6 : Int) (v8 : Int) (s0 : Int) (s1 : Int) (h : Hp)   {P : ((Int × Int × Hp) ⊕ (Int × Hp)) → Prop} (hin : ∀ y : Int × Int × Hp, P (.inl y) → ATk (KM k0 0 0 Qp) FN 0 0 M_X12_fromOf 43 [some (aR 150), some (aI v1), some (aI v2), some (aI v3), some (aL v4), none, some (aI v6), some (aI y.1), some (aI y.2.1)] [] y.2.2) (hout0 : ∀ y : Int × Hp, P (.inr y) → ATk (KM k0 0 0 Qp) FN 0 0 M_X12_fromOf 99 [some (aR 150), some (aI v1), some (aI v2), some (aI v3), some (aL v4), none, some (aI v6), some (aI y.1), none] [] y.2) (hh : OK (X12_fromOf_j95 v1 v2 v3 v4 v6 v8 s0 s1 h) P) : ATk (KM k0 0 0 Qp) FN 0 0 M_X12_fromOf 95 [some (aR 150), some (aI v1), some (aI v2), some (aI v3), some (aL v4), none, some (aI v6), none, some (aI v8)] [aI s1, aI s0] h := by
  unfold X12_fromOf_j95 at hh
  refine A_blk hM.1 2 (lv1 := [some (aR 150), some (aI v1), some (aI v2), some (aI v3), some (aL v4), none, some (aI v6), some (aI (s0 + s1)), some (aI v8)]) (s1 := []) (h1 := h) rfl ?_
  exact c_X12_fromOf_j97 hM v1 v2 v3 v4 v6 (s0 + s1) v8 h hin hout0 hh

set_option maxRecDepth 20000 in
set_option maxHeartbeats 4000000 in
theorem c_X12_fromOf_j82 {k0 : K0} {G : Gx} {Qp : Option AV → Fx → Hp → Prop} (hM : MB (KM k0 0 0 Qp) G M_X12_fromOf 4) (v1 : Int) (v2 : Int) (v3 : Int) (v4 : Int) (v6 : Int) (v8 : Int) (s0 : Int) (s1 : Int) (h : Hp)   {P : ((Int × Int × Hp) ⊕ (Int × Hp)) → Prop} (hin : ∀ y : Int × Int × Hp, P (.inl y) → ATk (KM k0 0 0 Qp) FN 0 0 M_X12_fromOf 43 [some (aR 150), some (aI v1), some (aI v2), some (aI v3), some (aL v4), none, some (aI v6), some (aI y.1), some (aI y.2.1)] [] y.2.2) (hout0 : ∀ y : Int × Hp, P (.inr y) → ATk (KM k0 0 0 Qp) FN 0 0 M_X12_fromOf 99 [some (aR 150), some (aI v1), some (aI v2), some (aI v3), some (aL v4), none, some (aI v6), some (aI y.1), none] [] y.2) (hh : OK (X12_fromOf_j82 v1 v2 v3 v4 v6 v8 s0 s1 h) P) : ATk (KM k0 0 0 Qp) FN 0 0 M_X12_fromOf 82 [some (aR 150), some (aI v1), some (aI v2), some (aI v3), some (aL v4), none, some (aI v6), none, some (aI v8)] [aI s1, aI s0] h := by
  unfold X12_fromOf_j82 at hh
  refine A_blk hM.1 2 (lv1 := [some (aR 150), some (aI v1), some (aI v2), some (aI v3), some (aL v4), none, some (aI v6), some (aI (s0 + s1)), some (aI v8)]) (s1 := []) (h1 := h) rfl ?_
  refine A_go hM.1 rfl rfl ?_
  exact c_X12_fromOf_j97 hM v1 v2 v3 v4 v6 (s0 + s1) v8 h hin hout0 hh

set_option maxRecDepth 20000 in
set_option maxHeartbeats 4000000 in
theorem c_X12_fromOf_l43 {k0 : K0} {G : Gx} {Qp : Option AV → Fx → Hp → Prop} (hM : MB (KM k0 0 0 Qp) G M_X12_fromOf 4) (v1 : Int) (v2 : Int) (v3 : Int) (v4 : Int) (v6 : Int) (x : Int × Int × Hp)   {P : ((Int × Int × Hp) ⊕ (Int × Hp)) → Prop} (hin : ∀ y : Int × Int × Hp, P (.inl y) → ATk (KM k0 0 0 Qp) FN 0 0 M_X12_fromOf 43 [some (aR 150), some (aI v1), some (aI v2), some (aI v3), some (aL v4), none, some (aI v6), some (aI y.1), some (aI y.2.1)] [] y.2.2) (hout0 : ∀ y : Int × Hp, P (.inr y) → ATk (KM k0 0 0 Qp) FN 0 0 M_X12_fromOf 99 [some (aR 150), some (aI v1), some (aI v2), some (aI v3), some (aL v4), none, some (aI v6), some (aI y.1), none] [] y.2) (hh : OK (X12_fromOf_l43 v1 v2 v3 v4 v6 x) P) : ATk (KM k0 0 0 Qp) FN 0 0 M_X12_fromOf 43 [some (aR 150), some (aI v1), some (aI v2), some (aI v3), some (aL v4), none, some (aI v6), some (aI x.1), some (aI x.2.1)] [] x.2.2 := by
  unfold X12_fromOf_l43 at hh
  refine A_blk hM.1 4 (lv1 := [some (aR 150), some (aI v1), some (aI v2), some (aI v3), some (aL v4), none, some (aI v6), some (aI x.1), some (aI x.2.1)]) (s1 := [aI v2, aR 156, aI x.2.1]) (h1 := x.2.2) rfl ?_
  obtain ⟨g7, hh⟩ := OK_g hh
  refine A_ald hM.1 rfl (Or.inl ⟨rfl, rfl⟩) rfl (by decide) rfl g7 ?_
  refine A_icmp hM.1 rfl rfl (fun hc => ?_) (fun hc => ?_)
  · replace hh := OK_t hh hc
    refine A_mask [true, true, true, true, true, true, true, true, false] (lv1 := [some (aR 150), some (aI v1), some (aI v2), some (aI v3), some (aL v4), none, some (aI v6), some (aI x.1), none]) rfl ?_
    exact hout0 (x.1, x.2.2) hh
  · replace hh := OK_f hh hc
    refine A_blk hM.1 3 (lv1 := [some (aR 150), some (aI v1), some (aI v2), some (aI v3), some (aL v4), none, some (aI v6), some (aI x.1), some (aI x.2.1)]) (s1 := [aI x.2.1, aI v1, aR 150]) (h1 := x.2.2) rfl ?_
    refine A_callV hM rfl rfl (mem_GW 2160 (by decide +kernel) rfl) mi_X12_hasPlace (As := [aI v1, aI x.2.1]) (rest := []) (ct_X12_hasPlace v1 x.2.1 x.2.2 (OK_bind hh)) (by decide) ⟨Nat.zero_le _, Nat.zero_le _⟩ rfl rfl (Nat.le_of_ble_eq_true rfl) (by decide) rfl (by decide) rfl (fun r F' h' hq1 => ?_)
    obtain ⟨rfl, r8, rfl, e9, hh⟩ := hq1
    subst h'
    refine A_ifc hM.1 rfl rfl (fun hc => ?_) (fun hc => ?_)
    · replace hh := OK_t hh hc
      refine A_blk hM.1 4 (lv1 := [some (aR 150), some (aI v1), some (aI v2), some (aI v3), some (aL v4), none, some (aI v6), some (aI x.1), some (aI x.2.1)]) (s1 := [aI x.2.1, aI v2, aI v1, aR 150]) (h1 := x.2.2) rfl ?_
      refine A_callV hM rfl rfl (mem_GW 2156 (by decide +kernel) rfl) mi_X12_slipsAt (As := [aI v1, aI v2, aI x.2.1]) (rest := []) (ct_X12_slipsAt v1 v2 x.2.1 x.2.2 (OK_bind hh)) (by decide) ⟨Nat.zero_le _, Nat.zero_le _⟩ rfl rfl (Nat.le_of_ble_eq_true rfl) (by decide) rfl (by decide) rfl (fun r F' h' hq1 => ?_)
      obtain ⟨rfl, r9, rfl, e9, hh⟩ := hq1
      subst h'
      refine A_ifc hM.1 rfl rfl (fun hc => ?_) (fun hc => ?_)
      · replace hh := OK_t hh hc
        refine A_blk hM.1 5 (lv1 := [some (aR 150), some (aI v1), some (aI v2), some (aI v3), some (aL v4), none, some (aI v6), some (aI x.1), some (aI x.2.1)]) (s1 := [aI x.2.1, aI v2, aI v6, aR 150, aI x.1]) (h1 := x.2.2) rfl ?_
        refine A_callV hM rfl rfl (mem_GW 2156 (by decide +kernel) rfl) mi_X12_slipsAt (As := [aI v6, aI v2, aI x.2.1]) (rest := [aI x.1]) (ct_X12_slipsAt v6 v2 x.2.1 x.2.2 (OK_bind hh)) (by decide) ⟨Nat.zero_le _, Nat.zero_le _⟩ rfl rfl (Nat.le_of_ble_eq_true rfl) (by decide) rfl (by decide) rfl (fun r F' h' hq1 => ?_)
        obtain ⟨rfl, r10, rfl, e9, hh⟩ := hq1
        subst h'
        refine A_ifc hM.1 rfl rfl (fun hc => ?_) (fun hc => ?_)
        · replace hh := OK_t hh hc
          refine A_blk hM.1 1 (lv1 := [some (aR 150), some (aI v1), some (aI v2), some (aI v3), some (aL v4), none, some (aI v6), some (aI x.1), some (aI x.2.1)]) (s1 := [aI 0, aI x.1]) (h1 := x.2.2) rfl ?_
          refine A_mask [true, true, true, true, true, true, true, false, true] (lv1 := [some (aR 150), some (aI v1), some (aI v2), some (aI v3), some (aL v4), none, some (aI v6), none, some (aI x.2.1)]) rfl ?_
          exact c_X12_fromOf_j95 hM v1 v2 v3 v4 v6 x.2.1 x.1 0 x.2.2 hin hout0 hh
        · replace hh := OK_f hh hc
          refine A_blk hM.1 1 (lv1 := [some (aR 150), some (aI v1), some (aI v2), some (aI v3), some (aL v4), none, some (aI v6), some (aI x.1), some (aI x.2.1)]) (s1 := [aI 2, aI x.1]) (h1 := x.2.2) rfl ?_
          refine A_go hM.1 rfl rfl ?_
          refine A_mask [true, true, true, true, true, true, true, false, true] (lv1 := [some (aR 150), some (aI v1), some (aI v2), some (aI v3), some (aL v4), none, some (aI v6), none, some (aI x.2.1)]) rfl ?_
          exact c_X12_fromOf_j95 hM v1 v2 v3 v4 v6 x.2.1 x.1 2 x.2.2 hin hout0 hh
      · replace hh := OK_f hh hc
        refine A_blk hM.1 8 (lv1 := [some (aR 150), some (aI v1), some (aI v2), some (aI v3), some (aL v4), none, some (aI v6), some (aI x.1), some (aI x.2.1)]) (s1 := [aI ((40 * v1) + x.2.1), aR 185, aI x.1]) (h1 := x.2.2) rfl ?_
        obtain ⟨g11, hh⟩ := OK_g hh
        refine A_ald hM.1 rfl (Or.inl ⟨rfl, rfl⟩) rfl (by decide) rfl g11 ?_
        refine A_blk hM.1 7 (lv1 := [some (aR 150), some (aI v1), some (aI v2), some (aI v3), some (aL v4), none, some (aI v6), some (aI x.1), some (aI x.2.1)]) (s1 := [aI ((40 * v6) + x.2.1), aR 185, aI (x.2.2 185 ((w32 ((40 * v1) + x.2.1)).toNat)), aI x.1]) (h1 := x.2.2) rfl ?_
        obtain ⟨g12, hh⟩ := OK_g hh
        refine A_ald hM.1 rfl (Or.inl ⟨rfl, rfl⟩) rfl (by decide) rfl g12 ?_
        refine A_icmp hM.1 rfl rfl (fun hc => ?_) (fun hc => ?_)
        · replace hh := OK_t hh hc
          refine A_blk hM.1 1 (lv1 := [some (aR 150), some (aI v1), some (aI v2), some (aI v3), some (aL v4), none, some (aI v6), some (aI x.1), some (aI x.2.1)]) (s1 := [aI 1, aI x.1]) (h1 := x.2.2) rfl ?_
          refine A_mask [true, true, true, true, true, true, true, false, true] (lv1 := [some (aR 150), some (aI v1), some (aI v2), some (aI v3), some (aL v4), none, some (aI v6), none, some (aI x.2.1)]) rfl ?_
          exact c_X12_fromOf_j82 hM v1 v2 v3 v4 v6 x.2.1 x.1 1 x.2.2 hin hout0 hh
        · replace hh := OK_f hh hc
          refine A_blk hM.1 1 (lv1 := [some (aR 150), some (aI v1), some (aI v2), some (aI v3), some (aL v4), none, some (aI v6), some (aI x.1), some (aI x.2.1)]) (s1 := [aI 0, aI x.1]) (h1 := x.2.2) rfl ?_
          refine A_go hM.1 rfl rfl ?_
          refine A_mask [true, true, true, true, true, true, true, false, true] (lv1 := [some (aR 150), some (aI v1), some (aI v2), some (aI v3), some (aL v4), none, some (aI v6), none, some (aI x.2.1)]) rfl ?_
          exact c_X12_fromOf_j82 hM v1 v2 v3 v4 v6 x.2.1 x.1 0 x.2.2 hin hout0 hh
    · replace hh := OK_f hh hc
      refine A_go hM.1 rfl rfl ?_
      exact c_X12_fromOf_j97 hM v1 v2 v3 v4 v6 x.1 x.2.1 x.2.2 hin hout0 hh

set_option maxRecDepth 20000 in
set_option maxHeartbeats 4000000 in
theorem c_X12_fromOf_l15 {k0 : K0} {G : Gx} {Qp : Option AV → Fx → Hp → Prop} (hM : MB (KM k0 0 0 Qp) G M_X12_fromOf 4) (v1 : Int) (v2 : Int) (v4 : Int) (x : Int × Int × Hp)   {P : ((Int × Int × Hp) ⊕ (Int × Hp)) → Prop} (hin : ∀ y : Int × Int × Hp, P (.inl y) → ATk (KM k0 0 0 Qp) FN 0 0 M_X12_fromOf 15 [some (aR 150), some (aI v1), some (aI v2), some (aI y.1), some (aL v4), none, some (aI y.2.1), none, none] [] y.2.2) (hout0 : ∀ y : Int × Hp, P (.inr y) → ATk (KM k0 0 0 Qp) FN 0 0 M_X12_fromOf 111 [none, none, none, some (aI y.1), none, none, none, none, none] [] y.2) (hh : OK (X12_fromOf_l15 v1 v2 v4 x) P) : ATk (KM k0 0 0 Qp) FN 0 0 M_X12_fromOf 15 [some (aR 150), some (aI v1), some (aI v2), some (aI x.1), some (aL v4), none, some (aI x.2.1), none, none] [] x.2.2 := by
  unfold X12_fromOf_l15 at hh
  refine A_blk hM.1 3 (lv1 := [some (aR 150), some (aI v1), some (aI v2), some (aI x.1), some (aL v4), none, some (aI x.2.1), none, none]) (s1 := [aI (x.2.2 150 4), aI x.2.1]) (h1 := x.2.2) rfl ?_
  refine A_icmp hM.1 rfl rfl (fun hc => ?_) (fun hc => ?_)
  · replace hh := OK_t hh hc
    refine A_mask [false, false, false, true, false, true, false, true, true] (lv1 := [none, none, none, some (aI x.1), none, none, none, none, none]) rfl ?_
    exact hout0 (x.1, x.2.2) hh
  · replace hh := OK_f hh hc
    refine A_blk hM.1 3 (lv1 := [some (aR 150), some (aI v1), some (aI v2), some (aI x.1), some (aL v4), none, some (aI x.2.1), none, none]) (s1 := [aI x.2.1, aR 159]) (h1 := x.2.2) rfl ?_
    obtain ⟨g4, hh⟩ := OK_g hh
    refine A_ald hM.1 rfl (Or.inl ⟨rfl, rfl⟩) rfl (by decide) rfl g4 ?_
    refine A_blk hM.1 3 (lv1 := [some (aR 150), some (aI v1), some (aI v2), some (aI x.1), some (aL v4), none, some (aI x.2.1), none, none]) (s1 := [aI v1, aR 159, aI (x.2.2 159 ((w32 x.2.1).toNat))]) (h1 := x.2.2) rfl ?_
    obtain ⟨g5, hh⟩ := OK_g hh
    refine A_ald hM.1 rfl (Or.inl ⟨rfl, rfl⟩) rfl (by decide) rfl g5 ?_
    refine A_icmp hM.1 rfl rfl (fun hc => ?_) (fun hc => ?_)
    · replace hh := OK_t hh hc
      exact c_X12_fromOf_j109 hM v1 v2 x.1 v4 x.2.1 x.2.2 hin hout0 hh
    · replace hh := OK_f hh hc
      refine A_blk hM.1 3 (lv1 := [some (aR 150), some (aI v1), some (aI v2), some (aI x.1), some (aL v4), none, some (aI x.2.1), none, none]) (s1 := [aI x.2.1, aR 150, aL v4]) (h1 := x.2.2) rfl ?_
      refine A_callV hM rfl rfl (mem_GW 2167 (by decide +kernel) rfl) mi_X12_placesOf (As := [aI x.2.1]) (rest := [aL v4]) (ct_X12_placesOf x.2.1 x.2.2 (OK_bind hh)) (by decide) ⟨Nat.zero_le _, Nat.zero_le _⟩ rfl rfl (Nat.le_of_ble_eq_true rfl) (by decide) rfl (by decide) rfl (fun r F' h' hq1 => ?_)
      obtain ⟨rfl, r6, rfl, e9, hh⟩ := hq1
      subst h'
      refine A_blk hM.1 5 (lv1 := [some (aR 150), some (aI v1), some (aI v2), some (aI x.1), some (aL v4), none, some (aI x.2.1), none, none]) (s1 := [aI (cmp64 (and64 v4 (xor64 r6 (-1))) 0)]) (h1 := x.2.2) rfl ?_
      refine A_ifc hM.1 rfl rfl (fun hc => ?_) (fun hc => ?_)
      · replace hh := OK_t hh hc
        refine A_blk hM.1 4 (lv1 := [some (aR 150), some (aI v1), some (aI v2), some (aI x.1), some (aL v4), none, some (aI x.2.1), some (aI 1), some (aI 0)]) (s1 := []) (h1 := x.2.2) rfl ?_
        refine iter_ok (s := (1, 0, x.2.2)) (Gp := fun z => ATk (KM k0 0 0 Qp) FN 0 0 M_X12_fromOf 43 [some (aR 150), some (aI v1), some (aI v2), some (aI x.1), some (aL v4), none, some (aI x.2.1), some (aI z.1), some (aI z.2.1)] [] z.2.2) (E := fun z => ATk (KM k0 0 0 Qp) FN 0 0 M_X12_fromOf 99 [some (aR 150), some (aI v1), some (aI v2), some (aI x.1), some (aL v4), none, some (aI x.2.1), some (aI z.1), none] [] z.2) (fun z P1 g1 g2 g3 => c_X12_fromOf_l43 hM v1 v2 x.1 v4 x.2.1 z g2 g3 g1) (OK_bind hh) (fun x13 hh => ?_)
        refine A_blk hM.1 3 (lv1 := [some (aR 150), some (aI v1), some (aI v2), some (aI x.1), some (aL v4), none, some (aI x.2.1), some (aI x13.1), none]) (s1 := [aI (x13.2 150 74), aI x13.1]) (h1 := x13.2) rfl ?_
        refine A_icmp hM.1 rfl rfl (fun hc => ?_) (fun hc => ?_)
        · replace hh := OK_t hh hc
          refine A_blk hM.1 5 (lv1 := [some (aR 150), some (aI v1), some (aI v2), some (aI x.2.1), some (aL v4), none, some (aI x.2.1), some (aI x13.1), none]) (s1 := []) (h1 := setH x13.2 150 74 x13.1) rfl ?_
          refine A_mask [true, true, true, true, true, true, true, false, true] (lv1 := [some (aR 150), some (aI v1), some (aI v2), some (aI x.2.1), some (aL v4), none, some (aI x.2.1), none, none]) rfl ?_
          exact c_X12_fromOf_j109 hM v1 v2 x.2.1 v4 x.2.1 (setH x13.2 150 74 x13.1) hin hout0 hh
        · replace hh := OK_f hh hc
          refine A_go hM.1 rfl rfl ?_
          refine A_mask [true, true, true, true, true, true, true, false, true] (lv1 := [some (aR 150), some (aI v1), some (aI v2), some (aI x.1), some (aL v4), none, some (aI x.2.1), none, none]) rfl ?_
          exact c_X12_fromOf_j109 hM v1 v2 x.1 v4 x.2.1 x13.2 hin hout0 hh
      · replace hh := OK_f hh hc
        refine A_go hM.1 rfl rfl ?_
        exact c_X12_fromOf_j109 hM v1 v2 x.1 v4 x.2.1 x.2.2 hin hout0 hh

set_option maxRecDepth 20000 in
set_option maxHeartbeats 4000000 in
theorem c_X12_fromOf {k0 : K0} {G : Gx} {Qp : Option AV → Fx → Hp → Prop} (hM : MB (KM k0 0 0 Qp) G M_X12_fromOf 4) (v1 : Int) (v2 : Int) (h : Hp)   {P : (Int × Hp) → Prop} (hq : ∀ z : Int × Hp, P z → Qp (some (aI z.1)) FN z.2) (hh : OK (X12_fromOf v1 v2 h) P) : ATk (KM k0 0 0 Qp) FN 0 0 M_X12_fromOf 0 [some (aR 150), some (aI v1), some (aI v2), none, none, none, none, none, none] [] h := by
  unfold X12_fromOf at hh
  refine A_blk hM.1 6 (lv1 := [some (aR 150), some (aI v1), some (aI v2), some (aI (-1)), none, none, none, none, none]) (s1 := [aI v2, aI v1, aR 150, aR 150]) (h1 := h) rfl ?_
  refine A_callV hM rfl rfl (mem_GW 2152 (by decide +kernel) rfl) mi_X12_slipsOf (As := [aI v1, aI v2]) (rest := [aR 150]) (ct_X12_slipsOf v1 v2 h (OK_bind hh)) (by decide) ⟨Nat.zero_le _, Nat.zero_le _⟩ rfl rfl (Nat.le_of_ble_eq_true rfl) (by decide) rfl (by decide) rfl (fun r F' h' hq1 => ?_)
  obtain ⟨rfl, r1, rfl, e9, hh⟩ := hq1
  subst h'
  refine A_callS hM rfl rfl (mem_GW 2164 (by decide +kernel) rfl) mi_X12_sizeOf ms_X12_sizeOf (As := [aL r1]) (rest := [aR 150]) (ct_X12_sizeOf r1 h (OK_bind hh)) (by decide) ⟨Nat.zero_le _, Nat.zero_le _⟩ rfl rfl (Nat.le_of_ble_eq_true rfl) (fun r F' h' hq1 => ?_)
  obtain ⟨rfl, r2, rfl, e9, hh⟩ := hq1
  subst h'
  refine A_blk hM.1 3 (lv1 := [some (aR 150), some (aI v1), some (aI v2), some (aI (-1)), none, none, none, none, none]) (s1 := [aI v1, aR 150]) (h1 := setH h 150 74 r2) rfl ?_
  refine A_callV hM rfl rfl (mem_GW 2167 (by decide +kernel) rfl) mi_X12_placesOf (As := [aI v1]) (rest := []) (ct_X12_placesOf v1 (setH h 150 74 r2) (OK_bind hh)) (by decide) ⟨Nat.zero_le _, Nat.zero_le _⟩ rfl rfl (Nat.le_of_ble_eq_true rfl) (by decide) rfl (by decide) rfl (fun r F' h' hq1 => ?_)
  obtain ⟨rfl, r3, rfl, e9, hh⟩ := hq1
  subst h'
  refine A_blk hM.1 3 (lv1 := [some (aR 150), some (aI v1), some (aI v2), some (aI (-1)), some (aL r3), none, some (aI 0), none, none]) (s1 := []) (h1 := setH h 150 74 r2) rfl ?_
  refine iter_ok (s := ((-1), 0, setH h 150 74 r2)) (Gp := fun z => ATk (KM k0 0 0 Qp) FN 0 0 M_X12_fromOf 15 [some (aR 150), some (aI v1), some (aI v2), some (aI z.1), some (aL r3), none, some (aI z.2.1), none, none] [] z.2.2) (E := fun z => ATk (KM k0 0 0 Qp) FN 0 0 M_X12_fromOf 111 [none, none, none, some (aI z.1), none, none, none, none, none] [] z.2) (fun z P1 g1 g2 g3 => c_X12_fromOf_l15 hM v1 v2 r3 z g2 g3 g1) (OK_bind hh) (fun x14 hh => ?_)
  refine A_blk hM.1 1 (lv1 := [none, none, none, some (aI x14.1), none, none, none, none, none]) (s1 := [aI x14.1]) (h1 := x14.2) rfl ?_
  exact A_reti hM.1 rfl rfl rfl (hq (x14.1, x14.2) hh)

set_option maxRecDepth 20000 in
set_option maxHeartbeats 4000000 in
theorem ct_X12_fromOf {G : Gx} (v1 : Int) (v2 : Int) (h : Hp)   {P : (Int × Hp) → Prop} (hh : OK (X12_fromOf v1 v2 h) P) : CT G yX12_fromOf M_X12_fromOf 4 0 0 FN h [aR 150, aI v1, aI v2] (fun r F' h' => F' = FN ∧ ∃ z, r = some (aI z.1) ∧ h' = z.2 ∧ P z) :=
  CT.of (by decide +kernel) rfl (Nat.le_of_ble_eq_true rfl) k_X12_fromOf fun k0 _ _ hM => c_X12_fromOf hM v1 v2 h (fun z hz => ⟨rfl, z, rfl, rfl, hz⟩) hh

theorem mi_X12_from : MIv yX12_from M_X12_from 3 := ⟨⟨(mem_GW 2201 (by decide +kernel) rfl), (mem_GW 135 (by decide +kernel) rfl), by decide +kernel, by decide +kernel, by decide +kernel, by decide⟩, (mem_GW 2199 (by decide +kernel) rfl), (mem_GW 2200 (by decide +kernel) rfl)⟩
set_option maxRecDepth 20000 in
set_option maxHeartbeats 4000000 in
theorem c_X12_from {k0 : K0} {G : Gx} {Qp : Option AV → Fx → Hp → Prop} (hM : MB (KM k0 0 0 Qp) G M_X12_from 5) (v1 : Int) (v2 : Int) (v3 : Int) (h : Hp)   {P : (Int × Hp) → Prop} (hq : ∀ z : Int × Hp, P z → Qp (some (aI z.1)) FN z.2) (hh : OK (X12_from v1 v2 v3 h) P) : ATk (KM k0 0 0 Qp) FN 0 0 M_X12_from 0 [some (aR 150), some (aI v1), some (aI v2), some (aI v3), none] [] h := by
  unfold X12_from at hh
  refine A_blk hM.1 2 (lv1 := [some (aR 150), some (aI v1), some (aI v2), some (aI v3), none]) (s1 := [aI v1, aR 150]) (h1 := h) rfl ?_
  refine A_callV hM rfl rfl (mem_GW 1922 (by decide +kernel) rfl) mi_X12_isWriter (As := [aI v1]) (rest := []) (ct_X12_isWriter v1 h (OK_bind hh)) (by decide) ⟨Nat.zero_le _, Nat.zero_le _⟩ rfl rfl (Nat.le_of_ble_eq_true rfl) (by decide) rfl (by decide) rfl (fun r F' h' hq1 => ?_)
  obtain ⟨rfl, r1, rfl, e9, hh⟩ := hq1
  subst h'
  refine A_ifc hM.1 rfl rfl (fun hc => ?_) (fun hc => ?_)
  · replace hh := OK_t hh hc
    refine A_blk hM.1 1 (lv1 := [some (aR 150), some (aI v1), some (aI v2), some (aI v3), none]) (s1 := [aI (-3)]) (h1 := h) rfl ?_
    exact A_reti hM.1 rfl rfl rfl (hq ((-3), h) hh)
  · replace hh := OK_f hh hc
    refine A_blk hM.1 2 (lv1 := [some (aR 150), some (aI v1), some (aI v2), some (aI v3), none]) (s1 := [aI v2, aR 150]) (h1 := h) rfl ?_
    refine A_callV hM rfl rfl (mem_GW 2050 (by decide +kernel) rfl) mi_X12_isLeft (As := [aI v2]) (rest := []) (ct_X12_isLeft v2 h (OK_bind hh)) (by decide) ⟨Nat.zero_le _, Nat.zero_le _⟩ rfl rfl (Nat.le_of_ble_eq_true rfl) (by decide) rfl (by decide) rfl (fun r F' h' hq1 => ?_)
    obtain ⟨rfl, r2, rfl, e9, hh⟩ := hq1
    subst h'
    refine A_ifc hM.1 rfl rfl (fun hc => ?_) (fun hc => ?_)
    · replace hh := OK_t hh hc
      refine A_blk hM.1 1 (lv1 := [some (aR 150), some (aI v1), some (aI v2), some (aI v3), none]) (s1 := [aI (-3)]) (h1 := h) rfl ?_
      exact A_reti hM.1 rfl rfl rfl (hq ((-3), h) hh)
    · replace hh := OK_f hh hc
      refine A_blk hM.1 4 (lv1 := [some (aR 150), some (aI v1), some (aI v2), some (aI v3), none]) (s1 := [aL 1, aL 0, aL (w32 v3)]) (h1 := h) rfl ?_
      refine A_callS hM rfl rfl (mem_GW 1879 (by decide +kernel) rfl) mi_X12_lies ms_X12_lies (As := [aL (w32 v3), aL 0, aL 1]) (rest := []) (ct_X12_lies (w32 v3) 0 1 h (OK_bind hh)) (by decide) ⟨Nat.zero_le _, Nat.zero_le _⟩ rfl rfl (Nat.le_of_ble_eq_true rfl) (fun r F' h' hq1 => ?_)
      obtain ⟨rfl, r3, rfl, e9, hh⟩ := hq1
      subst h'
      refine A_ifc hM.1 rfl rfl (fun hc => ?_) (fun hc => ?_)
      · replace hh := OK_t hh hc
        refine A_blk hM.1 2 (lv1 := [some (aR 150), some (aI v1), some (aI v2), some (aI v3), none]) (s1 := [aI v2, aR 150]) (h1 := h) rfl ?_
        refine A_callV hM rfl rfl (mem_GW 2148 (by decide +kernel) rfl) mi_X12_lays (As := [aI v2]) (rest := []) (ct_X12_lays v2 h (OK_bind hh)) (by decide) ⟨Nat.zero_le _, Nat.zero_le _⟩ rfl rfl (Nat.le_of_ble_eq_true rfl) (by decide) rfl (by decide) rfl (fun r F' h' hq1 => ?_)
        obtain ⟨rfl, rfl, hh⟩ := hq1
        obtain ⟨r4, rfl⟩ : ∃ z, z = h' := ⟨_, rfl⟩
        refine A_blk hM.1 2 (lv1 := [some (aR 150), some (aI v1), some (aI v2), some (aI v3), none]) (s1 := [aI v1, aR 150]) (h1 := r4) rfl ?_
        refine A_callV hM rfl rfl (mem_GW 2167 (by decide +kernel) rfl) mi_X12_placesOf (As := [aI v1]) (rest := []) (ct_X12_placesOf v1 r4 (OK_bind hh)) (by decide) ⟨Nat.zero_le _, Nat.zero_le _⟩ rfl rfl (Nat.le_of_ble_eq_true rfl) (by decide) rfl (by decide) rfl (fun r F' h' hq1 => ?_)
        obtain ⟨rfl, r5, rfl, e9, hh⟩ := hq1
        subst h'
        refine A_blk hM.1 2 (lv1 := [some (aR 150), some (aI v1), some (aI v2), some (aI v3), none]) (s1 := [aI (cmp64 r5 0)]) (h1 := r4) rfl ?_
        refine A_ifc hM.1 rfl rfl (fun hc => ?_) (fun hc => ?_)
        · replace hh := OK_t hh hc
          refine A_blk hM.1 3 (lv1 := [some (aR 150), some (aI v1), some (aI v2), some (aI v3), none]) (s1 := [aI v2, aI v1, aR 150]) (h1 := r4) rfl ?_
          refine A_callV hM rfl rfl (mem_GW 2202 (by decide +kernel) rfl) mi_X12_fromOf (As := [aI v1, aI v2]) (rest := []) (ct_X12_fromOf v1 v2 r4 (OK_bind hh)) (by decide) ⟨Nat.zero_le _, Nat.zero_le _⟩ rfl rfl (Nat.le_of_ble_eq_true rfl) (by decide) rfl (by decide) rfl (fun r F' h' hq1 => ?_)
          obtain ⟨rfl, r6, rfl, e9, hh⟩ := hq1
          subst h'
          refine A_blk hM.1 2 (lv1 := [some (aR 150), some (aI v1), some (aI v2), some (aI v3), some (aI r6.1)]) (s1 := [aI v3]) (h1 := r6.2) rfl ?_
          refine A_ifc hM.1 rfl rfl (fun hc => ?_) (fun hc => ?_)
          · replace hh := OK_t hh hc
            refine A_blk hM.1 2 (lv1 := [some (aR 150), some (aI v1), some (aI v2), some (aI v3), some (aI r6.1)]) (s1 := [aI (r6.2 150 74)]) (h1 := r6.2) rfl ?_
            exact A_reti hM.1 rfl rfl rfl (hq (r6.2 150 74, r6.2) hh)
          · replace hh := OK_f hh hc
            refine A_blk hM.1 1 (lv1 := [some (aR 150), some (aI v1), some (aI v2), some (aI v3), some (aI r6.1)]) (s1 := [aI r6.1]) (h1 := r6.2) rfl ?_
            refine A_go hM.1 rfl rfl ?_
            exact A_reti hM.1 rfl rfl rfl (hq (r6.1, r6.2) hh)
        · replace hh := OK_f hh hc
          refine A_blk hM.1 1 (lv1 := [some (aR 150), some (aI v1), some (aI v2), some (aI v3), none]) (s1 := [aI (-2)]) (h1 := r4) rfl ?_
          exact A_reti hM.1 rfl rfl rfl (hq ((-2), r4) hh)
      · replace hh := OK_f hh hc
        refine A_blk hM.1 1 (lv1 := [some (aR 150), some (aI v1), some (aI v2), some (aI v3), none]) (s1 := [aI (-3)]) (h1 := h) rfl ?_
        exact A_reti hM.1 rfl rfl rfl (hq ((-3), h) hh)

set_option maxRecDepth 20000 in
set_option maxHeartbeats 4000000 in
theorem ct_X12_from {G : Gx} (v1 : Int) (v2 : Int) (v3 : Int) (h : Hp)   {P : (Int × Hp) → Prop} (hh : OK (X12_from v1 v2 v3 h) P) : CT G yX12_from M_X12_from 5 0 0 FN h [aR 150, aI v1, aI v2, aI v3] (fun r F' h' => F' = FN ∧ ∃ z, r = some (aI z.1) ∧ h' = z.2 ∧ P z) :=
  CT.of (by decide +kernel) rfl (Nat.le_of_ble_eq_true rfl) k_X12_from fun k0 _ _ hM => c_X12_from hM v1 v2 v3 h (fun z hz => ⟨rfl, z, rfl, rfl, hz⟩) hh

theorem mi_X12_there : MIv yX12_there M_X12_there 1 := ⟨⟨(mem_GW 2209 (by decide +kernel) rfl), (mem_GW 135 (by decide +kernel) rfl), by decide +kernel, by decide +kernel, by decide +kernel, by decide⟩, (mem_GW 2207 (by decide +kernel) rfl), (mem_GW 2208 (by decide +kernel) rfl)⟩
set_option maxRecDepth 20000 in
set_option maxHeartbeats 4000000 in
theorem c_X12_there_j40 {k0 : K0} {G : Gx} {Qp : Option AV → Fx → Hp → Prop} (hM : MB (KM k0 0 0 Qp) G M_X12_there 5) (v1 : Int) (v2 : Int) (v3 : Int) (h : Hp)   {P : ((Int × Int × Hp) ⊕ (Int × Hp)) → Prop} (hin : ∀ y : Int × Int × Hp, P (.inl y) → ATk (KM k0 0 0 Qp) FN 0 0 M_X12_there 13 [some (aR 150), some (aI v1), some (aI y.1), some (aI y.2.1)] [] y.2.2) (hout0 : ∀ y : Int × Hp, P (.inr y) → ATk (KM k0 0 0 Qp) FN 0 0 M_X12_there 42 [none, none, some (aI y.1), none] [] y.2) (hh : OK (X12_there_j40 v1 v2 v3 h) P) : ATk (KM k0 0 0 Qp) FN 0 0 M_X12_there 40 [some (aR 150), some (aI v1), some (aI v2), some (aI v3)] [] h := by
  unfold X12_there_j40 at hh
  refine A_blk hM.1 1 (lv1 := [some (aR 150), some (aI v1), some (aI v2), some (aI (v3 + 1))]) (s1 := []) (h1 := h) rfl ?_
  refine A_go hM.1 rfl rfl ?_
  exact hin (v2, v3 + 1, h) hh

set_option maxRecDepth 20000 in
set_option maxHeartbeats 4000000 in
theorem c_X12_there_l13 {k0 : K0} {G : Gx} {Qp : Option AV → Fx → Hp → Prop} (hM : MB (KM k0 0 0 Qp) G M_X12_there 5) (v1 : Int) (x : Int × Int × Hp)   {P : ((Int × Int × Hp) ⊕ (Int × Hp)) → Prop} (hin : ∀ y : Int × Int × Hp, P (.inl y) → ATk (KM k0 0 0 Qp) FN 0 0 M_X12_there 13 [some (aR 150), some (aI v1), some (aI y.1), some (aI y.2.1)] [] y.2.2) (hout0 : ∀ y : Int × Hp, P (.inr y) → ATk (KM k0 0 0 Qp) FN 0 0 M_X12_there 42 [none, none, some (aI y.1), none] [] y.2) (hh : OK (X12_there_l13 v1 x) P) : ATk (KM k0 0 0 Qp) FN 0 0 M_X12_there 13 [some (aR 150), some (aI v1), some (aI x.1), some (aI x.2.1)] [] x.2.2 := by
  unfold X12_there_l13 at hh
  refine A_blk hM.1 3 (lv1 := [some (aR 150), some (aI v1), some (aI x.1), some (aI x.2.1)]) (s1 := [aI (x.2.2 150 4), aI x.2.1]) (h1 := x.2.2) rfl ?_
  refine A_icmp hM.1 rfl rfl (fun hc => ?_) (fun hc => ?_)
  · replace hh := OK_t hh hc
    refine A_mask [false, false, true, false] (lv1 := [none, none, some (aI x.1), none]) rfl ?_
    exact hout0 (x.1, x.2.2) hh
  · replace hh := OK_f hh hc
    refine A_blk hM.1 2 (lv1 := [some (aR 150), some (aI v1), some (aI x.1), some (aI x.2.1)]) (s1 := [aI x.2.1, aR 150]) (h1 := x.2.2) rfl ?_
    refine A_callV hM rfl rfl (mem_GW 2167 (by decide +kernel) rfl) mi_X12_placesOf (As := [aI x.2.1]) (rest := []) (ct_X12_placesOf x.2.1 x.2.2 (OK_bind hh)) (by decide) ⟨Nat.zero_le _, Nat.zero_le _⟩ rfl rfl (Nat.le_of_ble_eq_true rfl) (by decide) rfl (by decide) rfl (fun r F' h' hq1 => ?_)
    obtain ⟨rfl, r3, rfl, e9, hh⟩ := hq1
    subst h'
    refine A_blk hM.1 2 (lv1 := [some (aR 150), some (aI v1), some (aI x.1), some (aI x.2.1)]) (s1 := [aI (cmp64 r3 0)]) (h1 := x.2.2) rfl ?_
    refine A_ifc hM.1 rfl rfl (fun hc => ?_) (fun hc => ?_)
    · replace hh := OK_t hh hc
      exact c_X12_there_j40 hM v1 x.1 x.2.1 x.2.2 hin hout0 hh
    · replace hh := OK_f hh hc
      refine A_blk hM.1 3 (lv1 := [some (aR 150), some (aI v1), some (aI x.1), some (aI x.2.1)]) (s1 := [aI v1, aI x.2.1, aR 150]) (h1 := x.2.2) rfl ?_
      refine A_callV hM rfl rfl (mem_GW 2202 (by decide +kernel) rfl) mi_X12_fromOf (As := [aI x.2.1, aI v1]) (rest := []) (ct_X12_fromOf x.2.1 v1 x.2.2 (OK_bind hh)) (by decide) ⟨Nat.zero_le _, Nat.zero_le _⟩ rfl rfl (Nat.le_of_ble_eq_true rfl) (by decide) rfl (by decide) rfl (fun r F' h' hq1 => ?_)
      obtain ⟨rfl, r4, rfl, e9, hh⟩ := hq1
      subst h'
      refine A_blk hM.1 1 (lv1 := [some (aR 150), some (aI v1), some (aI x.1), some (aI x.2.1)]) (s1 := [aI (-1), aI r4.1]) (h1 := r4.2) rfl ?_
      refine A_icmp hM.1 rfl rfl (fun hc => ?_) (fun hc => ?_)
      · replace hh := OK_t hh hc
        exact c_X12_there_j40 hM v1 x.1 x.2.1 r4.2 hin hout0 hh
      · replace hh := OK_f hh hc
        refine A_blk hM.1 3 (lv1 := [some (aR 150), some (aI v1), some (aI x.1), some (aI x.2.1)]) (s1 := [aI x.2.1, aR 159]) (h1 := r4.2) rfl ?_
        obtain ⟨g5, hh⟩ := OK_g hh
        refine A_ald hM.1 rfl (Or.inl ⟨rfl, rfl⟩) rfl (by decide) rfl g5 ?_
        refine A_blk hM.1 1 (lv1 := [some (aR 150), some (aI v1), some (aI x.1), some (aI x.2.1)]) (s1 := [aI x.1, aI (r4.2 159 ((w32 x.2.1).toNat))]) (h1 := r4.2) rfl ?_
        refine A_icmp hM.1 rfl rfl (fun hc => ?_) (fun hc => ?_)
        · replace hh := OK_t hh hc
          exact c_X12_there_j40 hM v1 x.1 x.2.1 r4.2 hin hout0 hh
        · replace hh := OK_f hh hc
          refine A_blk hM.1 3 (lv1 := [some (aR 150), some (aI v1), some (aI x.1), some (aI x.2.1)]) (s1 := [aI x.2.1, aR 159]) (h1 := r4.2) rfl ?_
          obtain ⟨g6, hh⟩ := OK_g hh
          refine A_ald hM.1 rfl (Or.inl ⟨rfl, rfl⟩) rfl (by decide) rfl g6 ?_
          refine A_blk hM.1 1 (lv1 := [some (aR 150), some (aI v1), some (aI (r4.2 159 ((w32 x.2.1).toNat))), some (aI x.2.1)]) (s1 := []) (h1 := r4.2) rfl ?_
          exact c_X12_there_j40 hM v1 (r4.2 159 ((w32 x.2.1).toNat)) x.2.1 r4.2 hin hout0 hh

set_option maxRecDepth 20000 in
set_option maxHeartbeats 4000000 in
theorem c_X12_there {k0 : K0} {G : Gx} {Qp : Option AV → Fx → Hp → Prop} (hM : MB (KM k0 0 0 Qp) G M_X12_there 5) (v1 : Int) (h : Hp)   {P : (Int × Hp) → Prop} (hq : ∀ z : Int × Hp, P z → Qp (some (aI z.1)) FN z.2) (hh : OK (X12_there v1 h) P) : ATk (KM k0 0 0 Qp) FN 0 0 M_X12_there 0 [some (aR 150), some (aI v1), none, none] [] h := by
  unfold X12_there at hh
  refine A_blk hM.1 2 (lv1 := [some (aR 150), some (aI v1), none, none]) (s1 := [aI v1, aR 150]) (h1 := h) rfl ?_
  refine A_callV hM rfl rfl (mem_GW 2050 (by decide +kernel) rfl) mi_X12_isLeft (As := [aI v1]) (rest := []) (ct_X12_isLeft v1 h (OK_bind hh)) (by decide) ⟨Nat.zero_le _, Nat.zero_le _⟩ rfl rfl (Nat.le_of_ble_eq_true rfl) (by decide) rfl (by decide) rfl (fun r F' h' hq1 => ?_)
  obtain ⟨rfl, r1, rfl, e9, hh⟩ := hq1
  subst h'
  refine A_ifc hM.1 rfl rfl (fun hc => ?_) (fun hc => ?_)
  · replace hh := OK_t hh hc
    refine A_blk hM.1 2 (lv1 := [some (aR 150), some (aI v1), none, none]) (s1 := [aI v1, aR 150]) (h1 := h) rfl ?_
    refine A_callV hM rfl rfl (mem_GW 2148 (by decide +kernel) rfl) mi_X12_lays (As := [aI v1]) (rest := []) (ct_X12_lays v1 h (OK_bind hh)) (by decide) ⟨Nat.zero_le _, Nat.zero_le _⟩ rfl rfl (Nat.le_of_ble_eq_true rfl) (by decide) rfl (by decide) rfl (fun r F' h' hq1 => ?_)
    obtain ⟨rfl, rfl, hh⟩ := hq1
    obtain ⟨r2, rfl⟩ : ∃ z, z = h' := ⟨_, rfl⟩
    refine A_blk hM.1 4 (lv1 := [some (aR 150), some (aI v1), some (aI (-1)), some (aI 0)]) (s1 := []) (h1 := r2) rfl ?_
    refine iter_ok (s := ((-1), 0, r2)) (Gp := fun z => ATk (KM k0 0 0 Qp) FN 0 0 M_X12_there 13 [some (aR 150), some (aI v1), some (aI z.1), some (aI z.2.1)] [] z.2.2) (E := fun z => ATk (KM k0 0 0 Qp) FN 0 0 M_X12_there 42 [none, none, some (aI z.1), none] [] z.2) (fun z P1 g1 g2 g3 => c_X12_there_l13 hM v1 z g2 g3 g1) (OK_bind hh) (fun x7 hh => ?_)
    refine A_blk hM.1 1 (lv1 := [none, none, some (aI x7.1), none]) (s1 := [aI x7.1]) (h1 := x7.2) rfl ?_
    exact A_reti hM.1 rfl rfl rfl (hq (x7.1, x7.2) hh)
  · replace hh := OK_f hh hc
    refine A_blk hM.1 1 (lv1 := [some (aR 150), some (aI v1), none, none]) (s1 := [aI (-1)]) (h1 := h) rfl ?_
    exact A_reti hM.1 rfl rfl rfl (hq ((-1), h) hh)

set_option maxRecDepth 20000 in
set_option maxHeartbeats 4000000 in
theorem ct_X12_there {G : Gx} (v1 : Int) (h : Hp)   {P : (Int × Hp) → Prop} (hh : OK (X12_there v1 h) P) : CT G yX12_there M_X12_there 5 0 0 FN h [aR 150, aI v1] (fun r F' h' => F' = FN ∧ ∃ z, r = some (aI z.1) ∧ h' = z.2 ∧ P z) :=
  CT.of (by decide +kernel) rfl (Nat.le_of_ble_eq_true rfl) k_X12_there fun k0 _ _ hM => c_X12_there hM v1 h (fun z hz => ⟨rfl, z, rfl, rfl, hz⟩) hh

theorem mi_X12_ahead : MIv yX12_ahead M_X12_ahead 2 := ⟨⟨(mem_GW 2213 (by decide +kernel) rfl), (mem_GW 135 (by decide +kernel) rfl), by decide +kernel, by decide +kernel, by decide +kernel, by decide⟩, (mem_GW 2211 (by decide +kernel) rfl), (mem_GW 2212 (by decide +kernel) rfl)⟩
set_option maxRecDepth 20000 in
set_option maxHeartbeats 4000000 in
theorem c_X12_ahead_j52 {k0 : K0} {G : Gx} {Qp : Option AV → Fx → Hp → Prop} (hM : MB (KM k0 0 0 Qp) G M_X12_ahead 3) (v1 : Int) (v2 : Int) (v3 : Int) (h : Hp)   {P : ((Int × Hp) ⊕ ((Hp) ⊕ (Hp))) → Prop} (hin : ∀ y : Int × Hp, P (.inl y) → ATk (KM k0 0 0 Qp) FN 0 0 M_X12_ahead 34 [some (aR 150), some (aI v1), some (aI v2), some (aI y.1)] [] y.2) (hout0 : ∀ y : Hp, P (.inr (.inl y)) → ATk (KM k0 0 0 Qp) FN 0 0 M_X12_ahead 50 [none, none, none, none] [] y) (hout1 : ∀ y : Hp, P (.inr (.inr y)) → ATk (KM k0 0 0 Qp) FN 0 0 M_X12_ahead 54 [some (aR 150), some (aI v1), some (aI v2), none] [] y) (hh : OK (X12_ahead_j52 v1 v2 v3 h) P) : ATk (KM k0 0 0 Qp) FN 0 0 M_X12_ahead 52 [some (aR 150), some (aI v1), some (aI v2), some (aI v3)] [] h := by
  unfold X12_ahead_j52 at hh
  refine A_blk hM.1 1 (lv1 := [some (aR 150), some (aI v1), some (aI v2), some (aI (v3 + 1))]) (s1 := []) (h1 := h) rfl ?_
  refine A_go hM.1 rfl rfl ?_
  exact hin (v3 + 1, h) hh

set_option maxRecDepth 20000 in
set_option maxHeartbeats 4000000 in
theorem c_X12_ahead_l34 {k0 : K0} {G : Gx} {Qp : Option AV → Fx → Hp → Prop} (hM : MB (KM k0 0 0 Qp) G M_X12_ahead 3) (v1 : Int) (v2 : Int) (x : Int × Hp)   {P : ((Int × Hp) ⊕ ((Hp) ⊕ (Hp))) → Prop} (hin : ∀ y : Int × Hp, P (.inl y) → ATk (KM k0 0 0 Qp) FN 0 0 M_X12_ahead 34 [some (aR 150), some (aI v1), some (aI v2), some (aI y.1)] [] y.2) (hout0 : ∀ y : Hp, P (.inr (.inl y)) → ATk (KM k0 0 0 Qp) FN 0 0 M_X12_ahead 50 [none, none, none, none] [] y) (hout1 : ∀ y : Hp, P (.inr (.inr y)) → ATk (KM k0 0 0 Qp) FN 0 0 M_X12_ahead 54 [some (aR 150), some (aI v1), some (aI v2), none] [] y) (hh : OK (X12_ahead_l34 v1 v2 x) P) : ATk (KM k0 0 0 Qp) FN 0 0 M_X12_ahead 34 [some (aR 150), some (aI v1), some (aI v2), some (aI x.1)] [] x.2 := by
  unfold X12_ahead_l34 at hh
  refine A_blk hM.1 3 (lv1 := [some (aR 150), some (aI v1), some (aI v2), some (aI x.1)]) (s1 := [aI (x.2 150 75), aI x.1]) (h1 := x.2) rfl ?_
  refine A_icmp hM.1 rfl rfl (fun hc => ?_) (fun hc => ?_)
  · replace hh := OK_t hh hc
    refine A_mask [true, true, true, false] (lv1 := [some (aR 150), some (aI v1), some (aI v2), none]) rfl ?_
    exact hout1 x.2 hh
  · replace hh := OK_f hh hc
    refine A_blk hM.1 3 (lv1 := [some (aR 150), some (aI v1), some (aI v2), some (aI x.1)]) (s1 := [aI x.1, aR 187]) (h1 := x.2) rfl ?_
    obtain ⟨g6, hh⟩ := OK_g hh
    refine A_ald hM.1 rfl (Or.inl ⟨rfl, rfl⟩) rfl (by decide) rfl g6 ?_
    refine A_blk hM.1 1 (lv1 := [some (aR 150), some (aI v1), some (aI v2), some (aI x.1)]) (s1 := [aI v1, aI (x.2 187 ((w32 x.1).toNat))]) (h1 := x.2) rfl ?_
    refine A_icmp hM.1 rfl rfl (fun hc => ?_) (fun hc => ?_)
    · replace hh := OK_t hh hc
      exact c_X12_ahead_j52 hM v1 v2 x.1 x.2 hin hout0 hout1 hh
    · replace hh := OK_f hh hc
      refine A_blk hM.1 3 (lv1 := [some (aR 150), some (aI v1), some (aI v2), some (aI x.1)]) (s1 := [aI x.1, aR 188]) (h1 := x.2) rfl ?_
      obtain ⟨g7, hh⟩ := OK_g hh
      refine A_ald hM.1 rfl (Or.inl ⟨rfl, rfl⟩) rfl (by decide) rfl g7 ?_
      refine A_blk hM.1 1 (lv1 := [some (aR 150), some (aI v1), some (aI v2), some (aI x.1)]) (s1 := [aI v2, aI (x.2 188 ((w32 x.1).toNat))]) (h1 := x.2) rfl ?_
      refine A_icmp hM.1 rfl rfl (fun hc => ?_) (fun hc => ?_)
      · replace hh := OK_t hh hc
        exact c_X12_ahead_j52 hM v1 v2 x.1 x.2 hin hout0 hout1 hh
      · replace hh := OK_f hh hc
        refine A_mask [false, false, false, false] (lv1 := [none, none, none, none]) rfl ?_
        exact hout0 x.2 hh

set_option maxRecDepth 20000 in
set_option maxHeartbeats 4000000 in
theorem c_X12_ahead {k0 : K0} {G : Gx} {Qp : Option AV → Fx → Hp → Prop} (hM : MB (KM k0 0 0 Qp) G M_X12_ahead 3) (v1 : Int) (v2 : Int) (h : Hp)   {P : (Int × Hp) → Prop} (hq : ∀ z : Int × Hp, P z → Qp (some (aI z.1)) FN z.2) (hh : OK (X12_ahead v1 v2 h) P) : ATk (KM k0 0 0 Qp) FN 0 0 M_X12_ahead 0 [some (aR 150), some (aI v1), some (aI v2), none] [] h := by
  unfold X12_ahead at hh
  refine A_blk hM.1 2 (lv1 := [some (aR 150), some (aI v1), some (aI v2), none]) (s1 := [aI v1, aR 150]) (h1 := h) rfl ?_
  refine A_callV hM rfl rfl (mem_GW 2086 (by decide +kernel) rfl) mi_X12_isBit (As := [aI v1]) (rest := []) (ct_X12_isBit v1 h (OK_bind hh)) (by decide) ⟨Nat.zero_le _, Nat.zero_le _⟩ rfl rfl (Nat.le_of_ble_eq_true rfl) (by decide) rfl (by decide) rfl (fun r F' h' hq1 => ?_)
  obtain ⟨rfl, r1, rfl, e9, hh⟩ := hq1
  subst h'
  refine A_ifc hM.1 rfl rfl (fun hc => ?_) (fun hc => ?_)
  · replace hh := OK_t hh hc
    refine A_blk hM.1 1 (lv1 := [some (aR 150), some (aI v1), some (aI v2), none]) (s1 := [aI 0]) (h1 := h) rfl ?_
    exact A_retz hM.1 rfl rfl rfl (by decide) (hq (0, h) hh)
  · replace hh := OK_f hh hc
    refine A_blk hM.1 2 (lv1 := [some (aR 150), some (aI v1), some (aI v2), none]) (s1 := [aI v2, aR 150]) (h1 := h) rfl ?_
    refine A_callV hM rfl rfl (mem_GW 2086 (by decide +kernel) rfl) mi_X12_isBit (As := [aI v2]) (rest := []) (ct_X12_isBit v2 h (OK_bind hh)) (by decide) ⟨Nat.zero_le _, Nat.zero_le _⟩ rfl rfl (Nat.le_of_ble_eq_true rfl) (by decide) rfl (by decide) rfl (fun r F' h' hq1 => ?_)
    obtain ⟨rfl, r2, rfl, e9, hh⟩ := hq1
    subst h'
    refine A_ifc hM.1 rfl rfl (fun hc => ?_) (fun hc => ?_)
    · replace hh := OK_t hh hc
      refine A_blk hM.1 1 (lv1 := [some (aR 150), some (aI v1), some (aI v2), none]) (s1 := [aI 0]) (h1 := h) rfl ?_
      exact A_retz hM.1 rfl rfl rfl (by decide) (hq (0, h) hh)
    · replace hh := OK_f hh hc
      refine A_blk hM.1 2 (lv1 := [some (aR 150), some (aI v1), some (aI v2), none]) (s1 := [aI v2, aI v1]) (h1 := h) rfl ?_
      refine A_icmp hM.1 rfl rfl (fun hc => ?_) (fun hc => ?_)
      · replace hh := OK_t hh hc
        refine A_blk hM.1 1 (lv1 := [some (aR 150), some (aI v1), some (aI v2), none]) (s1 := [aI 0]) (h1 := h) rfl ?_
        exact A_retz hM.1 rfl rfl rfl (by decide) (hq (0, h) hh)
      · replace hh := OK_f hh hc
        refine A_blk hM.1 3 (lv1 := [some (aR 150), some (aI v1), some (aI v2), none]) (s1 := [aI 60, aI (h 150 75)]) (h1 := h) rfl ?_
        refine A_icmp hM.1 rfl rfl (fun hc => ?_) (fun hc => ?_)
        · replace hh := OK_t hh hc
          refine A_blk hM.1 1 (lv1 := [some (aR 150), some (aI v1), some (aI v2), none]) (s1 := [aI 0]) (h1 := h) rfl ?_
          exact A_retz hM.1 rfl rfl rfl (by decide) (hq (0, h) hh)
        · replace hh := OK_f hh hc
          refine A_blk hM.1 3 (lv1 := [some (aR 150), some (aI v1), some (aI v2), none]) (s1 := [aI v1, aR 161]) (h1 := h) rfl ?_
          obtain ⟨g3, hh⟩ := OK_g hh
          refine A_ald hM.1 rfl (Or.inl ⟨rfl, rfl⟩) rfl (by decide) rfl g3 ?_
          refine A_blk hM.1 1 (lv1 := [some (aR 150), some (aI v1), some (aI v2), none]) (s1 := [aI (-1), aI (h 161 ((w32 v1).toNat))]) (h1 := h) rfl ?_
          refine A_icmp hM.1 rfl rfl (fun hc => ?_) (fun hc => ?_)
          · replace hh := OK_t hh hc
            refine A_blk hM.1 1 (lv1 := [some (aR 150), some (aI v1), some (aI v2), none]) (s1 := [aI 0]) (h1 := h) rfl ?_
            exact A_retz hM.1 rfl rfl rfl (by decide) (hq (0, h) hh)
          · replace hh := OK_f hh hc
            refine A_blk hM.1 3 (lv1 := [some (aR 150), some (aI v1), some (aI v2), none]) (s1 := [aI v1, aR 161]) (h1 := h) rfl ?_
            obtain ⟨g4, hh⟩ := OK_g hh
            refine A_ald hM.1 rfl (Or.inl ⟨rfl, rfl⟩) rfl (by decide) rfl g4 ?_
            refine A_blk hM.1 3 (lv1 := [some (aR 150), some (aI v1), some (aI v2), none]) (s1 := [aI v2, aR 161, aI (h 161 ((w32 v1).toNat))]) (h1 := h) rfl ?_
            obtain ⟨g5, hh⟩ := OK_g hh
            refine A_ald hM.1 rfl (Or.inl ⟨rfl, rfl⟩) rfl (by decide) rfl g5 ?_
            refine A_icmp hM.1 rfl rfl (fun hc => ?_) (fun hc => ?_)
            · replace hh := OK_t hh hc
              refine A_blk hM.1 2 (lv1 := [some (aR 150), some (aI v1), some (aI v2), some (aI 0)]) (s1 := []) (h1 := h) rfl ?_
              refine iter_ok (s := (0, h)) (Gp := fun z => ATk (KM k0 0 0 Qp) FN 0 0 M_X12_ahead 34 [some (aR 150), some (aI v1), some (aI v2), some (aI z.1)] [] z.2) (E := fun z => (∀ y, z = (.inl y) → ATk (KM k0 0 0 Qp) FN 0 0 M_X12_ahead 50 [none, none, none, none] [] y) ∧ (∀ y, z = (.inr y) → ATk (KM k0 0 0 Qp) FN 0 0 M_X12_ahead 54 [some (aR 150), some (aI v1), some (aI v2), none] [] y)) (fun z P1 g1 g2 g3 => c_X12_ahead_l34 hM v1 v2 z g2 (fun y hy => (g3 (.inl y) hy).1 y rfl) (fun y hy => (g3 (.inr y) hy).2 y rfl) g1) (OK_bind hh) (fun x8 hh => ?_)
              refine ⟨fun y e => ?_, fun y e => ?_⟩
              · obtain ⟨y9, rfl⟩ : ∃ z, z = y := ⟨_, rfl⟩
                subst e
                refine A_blk hM.1 1 (lv1 := [none, none, none, none]) (s1 := [aI 0]) (h1 := y9) rfl ?_
                exact A_retz hM.1 rfl rfl rfl (by decide) (hq (0, y9) hh)
              · obtain ⟨y10, rfl⟩ : ∃ z, z = y := ⟨_, rfl⟩
                subst e
                refine A_blk hM.1 5 (lv1 := [some (aR 150), some (aI v1), some (aI v2), none]) (s1 := [aI v1, aI (y10 150 75), aR 187]) (h1 := y10) rfl ?_
                obtain ⟨g11, hh⟩ := OK_g hh
                refine A_ast hM.1 rfl (Or.inl ⟨rfl, rfl, rfl⟩) rfl rfl rfl g11 ?_
                refine A_blk hM.1 5 (lv1 := [some (aR 150), some (aI v1), some (aI v2), none]) (s1 := [aI v2, aI (y10 150 75), aR 188]) (h1 := setH y10 187 ((w32 (y10 150 75)).toNat) v1) rfl ?_
                obtain ⟨g12, hh⟩ := OK_g hh
                refine A_ast hM.1 rfl (Or.inl ⟨rfl, rfl, rfl⟩) rfl rfl rfl g12 ?_
                refine A_blk hM.1 7 (lv1 := [some (aR 150), some (aI v1), some (aI v2), none]) (s1 := [aI 1]) (h1 := setH (setH (setH y10 187 ((w32 (y10 150 75)).toNat) v1) 188 ((w32 (y10 150 75)).toNat) v2) 150 75 ((y10 150 75) + 1)) rfl ?_
                exact A_retz hM.1 rfl rfl rfl (by decide) (hq (1, setH (setH (setH y10 187 ((w32 (y10 150 75)).toNat) v1) 188 ((w32 (y10 150 75)).toNat) v2) 150 75 ((y10 150 75) + 1)) hh)
            · replace hh := OK_f hh hc
              refine A_blk hM.1 1 (lv1 := [some (aR 150), some (aI v1), some (aI v2), none]) (s1 := [aI 0]) (h1 := h) rfl ?_
              exact A_retz hM.1 rfl rfl rfl (by decide) (hq (0, h) hh)

set_option maxRecDepth 20000 in
set_option maxHeartbeats 4000000 in
theorem ct_X12_ahead {G : Gx} (v1 : Int) (v2 : Int) (h : Hp)   {P : (Int × Hp) → Prop} (hh : OK (X12_ahead v1 v2 h) P) : CT G yX12_ahead M_X12_ahead 3 0 0 FN h [aR 150, aI v1, aI v2] (fun r F' h' => F' = FN ∧ ∃ z, r = some (aI z.1) ∧ h' = z.2 ∧ P z) :=
  CT.of (by decide +kernel) rfl (Nat.le_of_ble_eq_true rfl) k_X12_ahead fun k0 _ _ hM => c_X12_ahead hM v1 v2 h (fun z hz => ⟨rfl, z, rfl, rfl, hz⟩) hh

theorem mi_X12_standsPlan : MIv yX12_standsPlan M_X12_standsPlan 2 := ⟨⟨(mem_GW 2229 (by decide +kernel) rfl), (mem_GW 135 (by decide +kernel) rfl), by decide +kernel, by decide +kernel, by decide +kernel, by decide⟩, (mem_GW 2228 (by decide +kernel) rfl), (mem_GW 106 (by decide +kernel) rfl)⟩
set_option maxRecDepth 20000 in
set_option maxHeartbeats 4000000 in
theorem c_X12_standsPlan {k0 : K0} {G : Gx} {Qp : Option AV → Fx → Hp → Prop} (hM : MB (KM k0 0 0 Qp) G M_X12_standsPlan 2) (v1 : Int) (v2 : Int) (h : Hp)   {P : Hp → Prop} (hq : ∀ z : Hp, P z → Qp none FN z) (hh : OK (X12_standsPlan v1 v2 h) P) : ATk (KM k0 0 0 Qp) FN 0 0 M_X12_standsPlan 0 [some (aR 150), some (aI v1), some (aI v2)] [] h := by
  unfold X12_standsPlan at hh
  refine A_blk hM.1 1 (lv1 := [some (aR 150), some (aI v1), some (aI v2)]) (s1 := [aR 150]) (h1 := h) rfl ?_
  refine A_callV hM rfl rfl (mem_GW 2059 (by decide +kernel) rfl) mi_X12_clears (As := []) (rest := []) (ct_X12_clears h (OK_bind hh)) (by decide) ⟨Nat.zero_le _, Nat.zero_le _⟩ rfl rfl (Nat.le_of_ble_eq_true rfl) (by decide) rfl (by decide) rfl (fun r F' h' hq1 => ?_)
  obtain ⟨rfl, rfl, hh⟩ := hq1
  obtain ⟨r1, rfl⟩ : ∃ z, z = h' := ⟨_, rfl⟩
  refine A_blk hM.1 4 (lv1 := [some (aR 150), some (aI v1), some (aI v2)]) (s1 := [aI v1, aR 162, aR 150]) (h1 := r1) rfl ?_
  obtain ⟨g2, hh⟩ := OK_g hh
  refine A_ald hM.1 rfl (Or.inl ⟨rfl, rfl⟩) rfl (by decide) rfl g2 ?_
  refine A_blk hM.1 5 (lv1 := [some (aR 150), some (aI v1), some (aI v2)]) (s1 := [aI v2, aR 162, aR 150]) (h1 := setH r1 150 44 (r1 162 ((w32 v1).toNat))) rfl ?_
  obtain ⟨g3, hh⟩ := OK_g hh
  refine A_ald hM.1 rfl (Or.inl ⟨rfl, rfl⟩) rfl (by decide) rfl g3 ?_
  refine A_blk hM.1 5 (lv1 := [some (aR 150), some (aI v1), some (aI v2)]) (s1 := [aI v1, aR 163, aR 150]) (h1 := setH (setH r1 150 44 (r1 162 ((w32 v1).toNat))) 150 45 (r1 162 ((w32 v2).toNat))) rfl ?_
  obtain ⟨g4, hh⟩ := OK_g hh
  refine A_ald hM.1 rfl (Or.inl ⟨rfl, rfl⟩) rfl (by decide) rfl g4 ?_
  refine A_blk hM.1 5 (lv1 := [some (aR 150), some (aI v1), some (aI v2)]) (s1 := [aI v2, aR 163, aR 150]) (h1 := setH (setH (setH r1 150 44 (r1 162 ((w32 v1).toNat))) 150 45 (r1 162 ((w32 v2).toNat))) 150 52 (r1 163 ((w32 v1).toNat))) rfl ?_
  obtain ⟨g5, hh⟩ := OK_g hh
  refine A_ald hM.1 rfl (Or.inl ⟨rfl, rfl⟩) rfl (by decide) rfl g5 ?_
  refine A_blk hM.1 7 (lv1 := [some (aR 150), some (aI v1), some (aI v2)]) (s1 := [aI v1, aR 160, aR 159, aR 150]) (h1 := setH (setH (setH (setH r1 150 44 (r1 162 ((w32 v1).toNat))) 150 45 (r1 162 ((w32 v2).toNat))) 150 52 (r1 163 ((w32 v1).toNat))) 150 53 (r1 163 ((w32 v2).toNat))) rfl ?_
  obtain ⟨g6, hh⟩ := OK_g hh
  refine A_ald hM.1 rfl (Or.inl ⟨rfl, rfl⟩) rfl (by decide) rfl g6 ?_
  obtain ⟨g7, hh⟩ := OK_g hh
  refine A_ald hM.1 rfl (Or.inl ⟨rfl, rfl⟩) rfl (by decide) rfl g7 ?_
  refine A_blk hM.1 7 (lv1 := [some (aR 150), some (aI v1), some (aI v2)]) (s1 := [aI v2, aR 160, aR 159, aR 150]) (h1 := setH (setH (setH (setH (setH r1 150 44 (r1 162 ((w32 v1).toNat))) 150 45 (r1 162 ((w32 v2).toNat))) 150 52 (r1 163 ((w32 v1).toNat))) 150 53 (r1 163 ((w32 v2).toNat))) 150 56 (r1 159 ((w32 (r1 160 ((w32 v1).toNat))).toNat))) rfl ?_
  obtain ⟨g8, hh⟩ := OK_g hh
  refine A_ald hM.1 rfl (Or.inl ⟨rfl, rfl⟩) rfl (by decide) rfl g8 ?_
  obtain ⟨g9, hh⟩ := OK_g hh
  refine A_ald hM.1 rfl (Or.inl ⟨rfl, rfl⟩) rfl (by decide) rfl g9 ?_
  refine A_blk hM.1 5 (lv1 := [some (aR 150), some (aI v1), some (aI v2)]) (s1 := [aI v1, aR 164, aR 150]) (h1 := setH (setH (setH (setH (setH (setH r1 150 44 (r1 162 ((w32 v1).toNat))) 150 45 (r1 162 ((w32 v2).toNat))) 150 52 (r1 163 ((w32 v1).toNat))) 150 53 (r1 163 ((w32 v2).toNat))) 150 56 (r1 159 ((w32 (r1 160 ((w32 v1).toNat))).toNat))) 150 57 (r1 159 ((w32 (r1 160 ((w32 v2).toNat))).toNat))) rfl ?_
  obtain ⟨g10, hh⟩ := OK_g hh
  refine A_ald hM.1 rfl (Or.inl ⟨rfl, rfl⟩) rfl (by decide) rfl g10 ?_
  refine A_blk hM.1 5 (lv1 := [some (aR 150), some (aI v1), some (aI v2)]) (s1 := [aI v2, aR 164, aR 150]) (h1 := setH (setH (setH (setH (setH (setH (setH r1 150 44 (r1 162 ((w32 v1).toNat))) 150 45 (r1 162 ((w32 v2).toNat))) 150 52 (r1 163 ((w32 v1).toNat))) 150 53 (r1 163 ((w32 v2).toNat))) 150 56 (r1 159 ((w32 (r1 160 ((w32 v1).toNat))).toNat))) 150 57 (r1 159 ((w32 (r1 160 ((w32 v2).toNat))).toNat))) 150 48 (r1 164 ((w32 v1).toNat))) rfl ?_
  obtain ⟨g11, hh⟩ := OK_g hh
  refine A_ald hM.1 rfl (Or.inl ⟨rfl, rfl⟩) rfl (by decide) rfl g11 ?_
  refine A_blk hM.1 1 (lv1 := [some (aR 150), some (aI v1), some (aI v2)]) (s1 := []) (h1 := setH (setH (setH (setH (setH (setH (setH (setH r1 150 44 (r1 162 ((w32 v1).toNat))) 150 45 (r1 162 ((w32 v2).toNat))) 150 52 (r1 163 ((w32 v1).toNat))) 150 53 (r1 163 ((w32 v2).toNat))) 150 56 (r1 159 ((w32 (r1 160 ((w32 v1).toNat))).toNat))) 150 57 (r1 159 ((w32 (r1 160 ((w32 v2).toNat))).toNat))) 150 48 (r1 164 ((w32 v1).toNat))) 150 46 (r1 164 ((w32 v2).toNat))) rfl ?_
  exact A_retv hM.1 rfl rfl rfl (hq (setH (setH (setH (setH (setH (setH (setH (setH r1 150 44 (r1 162 ((w32 v1).toNat))) 150 45 (r1 162 ((w32 v2).toNat))) 150 52 (r1 163 ((w32 v1).toNat))) 150 53 (r1 163 ((w32 v2).toNat))) 150 56 (r1 159 ((w32 (r1 160 ((w32 v1).toNat))).toNat))) 150 57 (r1 159 ((w32 (r1 160 ((w32 v2).toNat))).toNat))) 150 48 (r1 164 ((w32 v1).toNat))) 150 46 (r1 164 ((w32 v2).toNat))) hh)

set_option maxRecDepth 20000 in
set_option maxHeartbeats 4000000 in
theorem ct_X12_standsPlan {G : Gx} (v1 : Int) (v2 : Int) (h : Hp)   {P : Hp → Prop} (hh : OK (X12_standsPlan v1 v2 h) P) : CT G yX12_standsPlan M_X12_standsPlan 2 0 0 FN h [aR 150, aI v1, aI v2] (fun r F' h' => F' = FN ∧ r = none ∧ P h') :=
  CT.of (by decide +kernel) rfl (Nat.le_of_ble_eq_true rfl) k_X12_standsPlan fun k0 _ _ hM => c_X12_standsPlan hM v1 v2 h (fun z hz => ⟨rfl, rfl, hz⟩) hh

theorem mi_X12_gathers : MIv yX12_gathers M_X12_gathers 2 := ⟨⟨(mem_GW 2225 (by decide +kernel) rfl), (mem_GW 135 (by decide +kernel) rfl), by decide +kernel, by decide +kernel, by decide +kernel, by decide⟩, (mem_GW 2224 (by decide +kernel) rfl), (mem_GW 105 (by decide +kernel) rfl)⟩
set_option maxRecDepth 20000 in
set_option maxHeartbeats 4000000 in
theorem c_X12_gathers_j37 {k0 : K0} {G : Gx} {Qp : Option AV → Fx → Hp → Prop} (hM : MB (KM k0 0 0 Qp) G M_X12_gathers 5) (v1 : Int) (v2 : Int) (v3 : Int) (h : Hp)   {P : ((Int × Hp) ⊕ ((Hp) ⊕ (Hp))) → Prop} (hin : ∀ y : Int × Hp, P (.inl y) → ATk (KM k0 0 0 Qp) FN 0 0 M_X12_gathers 5 [some (aR 150), some (aI v1), some (aI v2), some (aI y.1), none, none] [] y.2) (hout0 : ∀ y : Hp, P (.inr (.inl y)) → ATk (KM k0 0 0 Qp) FN 0 0 M_X12_gathers 23 [none, none, none, none, none, none] [] y) (hout1 : ∀ y : Hp, P (.inr (.inr y)) → ATk (KM k0 0 0 Qp) FN 0 0 M_X12_gathers 39 [some (aR 150), none, none, none, none, none] [] y) (hh : OK (X12_gathers_j37 v1 v2 v3 h) P) : ATk (KM k0 0 0 Qp) FN 0 0 M_X12_gathers 37 [some (aR 150), some (aI v1), some (aI v2), some (aI v3), none, none] [] h := by
  unfold X12_gathers_j37 at hh
  refine A_blk hM.1 1 (lv1 := [some (aR 150), some (aI v1), some (aI v2), some (aI (v3 + 1)), none, none]) (s1 := []) (h1 := h) rfl ?_
  refine A_go hM.1 rfl rfl ?_
  exact hin (v3 + 1, h) hh

set_option maxRecDepth 20000 in
set_option maxHeartbeats 4000000 in
theorem c_X12_gathers_l5 {k0 : K0} {G : Gx} {Qp : Option AV → Fx → Hp → Prop} (hM : MB (KM k0 0 0 Qp) G M_X12_gathers 5) (v1 : Int) (v2 : Int) (x : Int × Hp)   {P : ((Int × Hp) ⊕ ((Hp) ⊕ (Hp))) → Prop} (hin : ∀ y : Int × Hp, P (.inl y) → ATk (KM k0 0 0 Qp) FN 0 0 M_X12_gathers 5 [some (aR 150), some (aI v1), some (aI v2), some (aI y.1), none, none] [] y.2) (hout0 : ∀ y : Hp, P (.inr (.inl y)) → ATk (KM k0 0 0 Qp) FN 0 0 M_X12_gathers 23 [none, none, none, none, none, none] [] y) (hout1 : ∀ y : Hp, P (.inr (.inr y)) → ATk (KM k0 0 0 Qp) FN 0 0 M_X12_gathers 39 [some (aR 150), none, none, none, none, none] [] y) (hh : OK (X12_gathers_l5 v1 v2 x) P) : ATk (KM k0 0 0 Qp) FN 0 0 M_X12_gathers 5 [some (aR 150), some (aI v1), some (aI v2), some (aI x.1), none, none] [] x.2 := by
  unfold X12_gathers_l5 at hh
  refine A_blk hM.1 3 (lv1 := [some (aR 150), some (aI v1), some (aI v2), some (aI x.1), none, none]) (s1 := [aI (x.2 150 5), aI x.1]) (h1 := x.2) rfl ?_
  refine A_icmp hM.1 rfl rfl (fun hc => ?_) (fun hc => ?_)
  · replace hh := OK_t hh hc
    refine A_mask [true, false, false, false, true, true] (lv1 := [some (aR 150), none, none, none, none, none]) rfl ?_
    exact hout1 x.2 hh
  · replace hh := OK_f hh hc
    refine A_blk hM.1 3 (lv1 := [some (aR 150), some (aI v1), some (aI v2), some (aI x.1), none, none]) (s1 := [aI x.1, aR 161]) (h1 := x.2) rfl ?_
    obtain ⟨g1, hh⟩ := OK_g hh
    refine A_ald hM.1 rfl (Or.inl ⟨rfl, rfl⟩) rfl (by decide) rfl g1 ?_
    refine A_blk hM.1 1 (lv1 := [some (aR 150), some (aI v1), some (aI v2), some (aI x.1), none, none]) (s1 := [aI v1, aI (x.2 161 ((w32 x.1).toNat))]) (h1 := x.2) rfl ?_
    refine A_icmp hM.1 rfl rfl (fun hc => ?_) (fun hc => ?_)
    · replace hh := OK_t hh hc
      exact c_X12_gathers_j37 hM v1 v2 x.1 x.2 hin hout0 hout1 hh
    · replace hh := OK_f hh hc
      refine A_blk hM.1 2 (lv1 := [some (aR 150), some (aI v1), some (aI v2), some (aI x.1), none, none]) (s1 := [aI v2, aI x.1]) (h1 := x.2) rfl ?_
      refine A_icmp hM.1 rfl rfl (fun hc => ?_) (fun hc => ?_)
      · replace hh := OK_t hh hc
        refine A_blk hM.1 3 (lv1 := [some (aR 150), some (aI v1), some (aI v2), some (aI x.1), none, none]) (s1 := [aI 10, aI (x.2 150 78)]) (h1 := x.2) rfl ?_
        refine A_icmp hM.1 rfl rfl (fun hc => ?_) (fun hc => ?_)
        · replace hh := OK_t hh hc
          refine A_blk hM.1 5 (lv1 := [some (aR 150), some (aI v1), some (aI v2), some (aI x.1), none, none]) (s1 := [aI x.1, aI (x.2 150 78), aR 189]) (h1 := x.2) rfl ?_
          obtain ⟨g2, hh⟩ := OK_g hh
          refine A_ast hM.1 rfl (Or.inl ⟨rfl, rfl, rfl⟩) rfl rfl rfl g2 ?_
          refine A_blk hM.1 6 (lv1 := [some (aR 150), some (aI v1), some (aI v2), some (aI x.1), none, none]) (s1 := []) (h1 := setH (setH x.2 189 ((w32 (x.2 150 78)).toNat) x.1) 150 78 ((x.2 150 78) + 1)) rfl ?_
          exact c_X12_gathers_j37 hM v1 v2 x.1 (setH (setH x.2 189 ((w32 (x.2 150 78)).toNat) x.1) 150 78 ((x.2 150 78) + 1)) hin hout0 hout1 hh
        · replace hh := OK_f hh hc
          refine A_mask [false, false, false, false, true, true] (lv1 := [none, none, none, none, none, none]) rfl ?_
          exact hout0 x.2 hh
      · replace hh := OK_f hh hc
        refine A_go hM.1 rfl rfl ?_
        exact c_X12_gathers_j37 hM v1 v2 x.1 x.2 hin hout0 hout1 hh

set_option maxRecDepth 20000 in
set_option maxHeartbeats 4000000 in
theorem c_X12_gathers_j90 {k0 : K0} {G : Gx} {Qp : Option AV → Fx → Hp → Prop} (hM : MB (KM k0 0 0 Qp) G M_X12_gathers 5) (v3 : Int) (v4 : Int) (v5 : Int) (h : Hp)   {P : ((Int × Hp) ⊕ (Hp)) → Prop} (hin : ∀ y : Int × Hp, P (.inl y) → ATk (KM k0 0 0 Qp) FN 0 0 M_X12_gathers 58 [some (aR 150), none, none, some (aI v3), some (aI v4), some (aI y.1)] [] y.2) (hout0 : ∀ y : Hp, P (.inr y) → ATk (KM k0 0 0 Qp) FN 0 0 M_X12_gathers 92 [some (aR 150), none, none, some (aI v3), some (aI v4), none] [] y) (hh : OK (X12_gathers_j90 v3 v4 v5 h) P) : ATk (KM k0 0 0 Qp) FN 0 0 M_X12_gathers 90 [some (aR 150), none, none, some (aI v3), some (aI v4), some (aI v5)] [] h := by
  unfold X12_gathers_j90 at hh
  refine A_blk hM.1 1 (lv1 := [some (aR 150), none, none, some (aI v3), some (aI v4), some (aI (v5 + 1))]) (s1 := []) (h1 := h) rfl ?_
  refine A_go hM.1 rfl rfl ?_
  exact hin (v5 + 1, h) hh

set_option maxRecDepth 20000 in
set_option maxHeartbeats 4000000 in
theorem c_X12_gathers_l58 {k0 : K0} {G : Gx} {Qp : Option AV → Fx → Hp → Prop} (hM : MB (KM k0 0 0 Qp) G M_X12_gathers 5) (v3 : Int) (v4 : Int) (x : Int × Hp)   {P : ((Int × Hp) ⊕ (Hp)) → Prop} (hin : ∀ y : Int × Hp, P (.inl y) → ATk (KM k0 0 0 Qp) FN 0 0 M_X12_gathers 58 [some (aR 150), none, none, some (aI v3), some (aI v4), some (aI y.1)] [] y.2) (hout0 : ∀ y : Hp, P (.inr y) → ATk (KM k0 0 0 Qp) FN 0 0 M_X12_gathers 92 [some (aR 150), none, none, some (aI v3), some (aI v4), none] [] y) (hh : OK (X12_gathers_l58 v3 v4 x) P) : ATk (KM k0 0 0 Qp) FN 0 0 M_X12_gathers 58 [some (aR 150), none, none, some (aI v3), some (aI v4), some (aI x.1)] [] x.2 := by
  unfold X12_gathers_l58 at hh
  refine A_blk hM.1 3 (lv1 := [some (aR 150), none, none, some (aI v3), some (aI v4), some (aI x.1)]) (s1 := [aI (x.2 150 75), aI x.1]) (h1 := x.2) rfl ?_
  refine A_icmp hM.1 rfl rfl (fun hc => ?_) (fun hc => ?_)
  · replace hh := OK_t hh hc
    refine A_mask [true, true, true, true, true, false] (lv1 := [some (aR 150), none, none, some (aI v3), some (aI v4), none]) rfl ?_
    exact hout0 x.2 hh
  · replace hh := OK_f hh hc
    refine A_blk hM.1 3 (lv1 := [some (aR 150), none, none, some (aI v3), some (aI v4), some (aI x.1)]) (s1 := [aI x.1, aR 187]) (h1 := x.2) rfl ?_
    obtain ⟨g7, hh⟩ := OK_g hh
    refine A_ald hM.1 rfl (Or.inl ⟨rfl, rfl⟩) rfl (by decide) rfl g7 ?_
    refine A_blk hM.1 3 (lv1 := [some (aR 150), none, none, some (aI v3), some (aI v4), some (aI x.1)]) (s1 := [aI v4, aR 189, aI (x.2 187 ((w32 x.1).toNat))]) (h1 := x.2) rfl ?_
    obtain ⟨g8, hh⟩ := OK_g hh
    refine A_ald hM.1 rfl (Or.inl ⟨rfl, rfl⟩) rfl (by decide) rfl g8 ?_
    refine A_icmp hM.1 rfl rfl (fun hc => ?_) (fun hc => ?_)
    · replace hh := OK_t hh hc
      exact c_X12_gathers_j90 hM v3 v4 x.1 x.2 hin hout0 hh
    · replace hh := OK_f hh hc
      refine A_blk hM.1 3 (lv1 := [some (aR 150), none, none, some (aI v3), some (aI v4), some (aI x.1)]) (s1 := [aI x.1, aR 188]) (h1 := x.2) rfl ?_
      obtain ⟨g9, hh⟩ := OK_g hh
      refine A_ald hM.1 rfl (Or.inl ⟨rfl, rfl⟩) rfl (by decide) rfl g9 ?_
      refine A_blk hM.1 3 (lv1 := [some (aR 150), none, none, some (aI v3), some (aI v4), some (aI x.1)]) (s1 := [aI v3, aR 189, aI (x.2 188 ((w32 x.1).toNat))]) (h1 := x.2) rfl ?_
      obtain ⟨g10, hh⟩ := OK_g hh
      refine A_ald hM.1 rfl (Or.inl ⟨rfl, rfl⟩) rfl (by decide) rfl g10 ?_
      refine A_icmp hM.1 rfl rfl (fun hc => ?_) (fun hc => ?_)
      · replace hh := OK_t hh hc
        exact c_X12_gathers_j90 hM v3 v4 x.1 x.2 hin hout0 hh
      · replace hh := OK_f hh hc
        refine A_blk hM.1 4 (lv1 := [some (aR 150), none, none, some (aI v3), some (aI v4), some (aI x.1)]) (s1 := [aI v3, aR 190, aI v3, aR 190]) (h1 := x.2) rfl ?_
        obtain ⟨g11, hh⟩ := OK_g hh
        refine A_ald hM.1 rfl (Or.inl ⟨rfl, rfl⟩) rfl (by decide) rfl g11 ?_
        refine A_blk hM.1 4 (lv1 := [some (aR 150), none, none, some (aI v3), some (aI v4), some (aI x.1)]) (s1 := [aI (or32 (x.2 190 ((w32 v3).toNat)) (shl32 1 v4)), aI v3, aR 190]) (h1 := x.2) rfl ?_
        obtain ⟨g12, hh⟩ := OK_g hh
        refine A_ast hM.1 rfl (Or.inl ⟨rfl, rfl, rfl⟩) rfl rfl rfl g12 ?_
        exact c_X12_gathers_j90 hM v3 v4 x.1 (setH x.2 190 ((w32 v3).toNat) (or32 (x.2 190 ((w32 v3).toNat)) (shl32 1 v4))) hin hout0 hh

set_option maxRecDepth 20000 in
set_option maxHeartbeats 4000000 in
theorem c_X12_gathers_j120 {k0 : K0} {G : Gx} {Qp : Option AV → Fx → Hp → Prop} (hM : MB (KM k0 0 0 Qp) G M_X12_gathers 5) (v3 : Int) (v4 : Int) (h : Hp)   {P : ((Int × Hp) ⊕ (Hp)) → Prop} (hin : ∀ y : Int × Hp, P (.inl y) → ATk (KM k0 0 0 Qp) FN 0 0 M_X12_gathers 52 [some (aR 150), none, none, some (aI v3), some (aI y.1), none] [] y.2) (hout0 : ∀ y : Hp, P (.inr y) → ATk (KM k0 0 0 Qp) FN 0 0 M_X12_gathers 122 [some (aR 150), none, none, some (aI v3), none, none] [] y) (hh : OK (X12_gathers_j120 v3 v4 h) P) : ATk (KM k0 0 0 Qp) FN 0 0 M_X12_gathers 120 [some (aR 150), none, none, some (aI v3), some (aI v4), none] [] h := by
  unfold X12_gathers_j120 at hh
  refine A_blk hM.1 1 (lv1 := [some (aR 150), none, none, some (aI v3), some (aI (v4 + 1)), none]) (s1 := []) (h1 := h) rfl ?_
  refine A_go hM.1 rfl rfl ?_
  exact hin (v4 + 1, h) hh

set_option maxRecDepth 20000 in
set_option maxHeartbeats 4000000 in
theorem c_X12_gathers_l52 {k0 : K0} {G : Gx} {Qp : Option AV → Fx → Hp → Prop} (hM : MB (KM k0 0 0 Qp) G M_X12_gathers 5) (v3 : Int) (x : Int × Hp)   {P : ((Int × Hp) ⊕ (Hp)) → Prop} (hin : ∀ y : Int × Hp, P (.inl y) → ATk (KM k0 0 0 Qp) FN 0 0 M_X12_gathers 52 [some (aR 150), none, none, some (aI v3), some (aI y.1), none] [] y.2) (hout0 : ∀ y : Hp, P (.inr y) → ATk (KM k0 0 0 Qp) FN 0 0 M_X12_gathers 122 [some (aR 150), none, none, some (aI v3), none, none] [] y) (hh : OK (X12_gathers_l52 v3 x) P) : ATk (KM k0 0 0 Qp) FN 0 0 M_X12_gathers 52 [some (aR 150), none, none, some (aI v3), some (aI x.1), none] [] x.2 := by
  unfold X12_gathers_l52 at hh
  refine A_blk hM.1 3 (lv1 := [some (aR 150), none, none, some (aI v3), some (aI x.1), none]) (s1 := [aI (x.2 150 78), aI x.1]) (h1 := x.2) rfl ?_
  refine A_icmp hM.1 rfl rfl (fun hc => ?_) (fun hc => ?_)
  · replace hh := OK_t hh hc
    refine A_mask [true, true, true, true, false, true] (lv1 := [some (aR 150), none, none, some (aI v3), none, none]) rfl ?_
    exact hout0 x.2 hh
  · replace hh := OK_f hh hc
    refine A_blk hM.1 2 (lv1 := [some (aR 150), none, none, some (aI v3), some (aI x.1), some (aI 0)]) (s1 := []) (h1 := x.2) rfl ?_
    refine iter_ok (s := (0, x.2)) (Gp := fun z => ATk (KM k0 0 0 Qp) FN 0 0 M_X12_gathers 58 [some (aR 150), none, none, some (aI v3), some (aI x.1), some (aI z.1)] [] z.2) (E := fun z => ATk (KM k0 0 0 Qp) FN 0 0 M_X12_gathers 92 [some (aR 150), none, none, some (aI v3), some (aI x.1), none] [] z) (fun z P1 g1 g2 g3 => c_X12_gathers_l58 hM v3 x.1 z g2 g3 g1) (OK_bind hh) (fun x13 hh => ?_)
    refine A_blk hM.1 2 (lv1 := [some (aR 150), none, none, some (aI v3), some (aI x.1), none]) (s1 := [aI x.1, aI v3]) (h1 := x13) rfl ?_
    refine A_icmp hM.1 rfl rfl (fun hc => ?_) (fun hc => ?_)
    · replace hh := OK_t hh hc
      refine A_blk hM.1 4 (lv1 := [some (aR 150), none, none, some (aI v3), some (aI x.1), none]) (s1 := [aI v3, aR 189, aR 150]) (h1 := x13) rfl ?_
      obtain ⟨g14, hh⟩ := OK_g hh
      refine A_ald hM.1 rfl (Or.inl ⟨rfl, rfl⟩) rfl (by decide) rfl g14 ?_
      refine A_blk hM.1 3 (lv1 := [some (aR 150), none, none, some (aI v3), some (aI x.1), none]) (s1 := [aI x.1, aR 189, aI (x13 189 ((w32 v3).toNat)), aR 150]) (h1 := x13) rfl ?_
      obtain ⟨g15, hh⟩ := OK_g hh
      refine A_ald hM.1 rfl (Or.inl ⟨rfl, rfl⟩) rfl (by decide) rfl g15 ?_
      refine A_callV hM rfl rfl (mem_GW 2226 (by decide +kernel) rfl) mi_X12_standsPlan (As := [aI (x13 189 ((w32 v3).toNat)), aI (x13 189 ((w32 x.1).toNat))]) (rest := []) (ct_X12_standsPlan (x13 189 ((w32 v3).toNat)) (x13 189 ((w32 x.1).toNat)) x13 (OK_bind hh)) (by decide) ⟨Nat.zero_le _, Nat.zero_le _⟩ rfl rfl (Nat.le_of_ble_eq_true rfl) (by decide) rfl (by decide) rfl (fun r F' h' hq1 => ?_)
      obtain ⟨rfl, rfl, hh⟩ := hq1
      obtain ⟨r16, rfl⟩ : ∃ z, z = h' := ⟨_, rfl⟩
      refine A_blk hM.1 12 (lv1 := [some (aR 150), none, none, some (aI v3), some (aI x.1), none]) (s1 := [aI 1000, aI (-1000), aI 112, aI 8, aR 150, aI ((10 * v3) + x.1), aR 191]) (h1 := r16) rfl ?_
      refine A_callV hM rfl rfl (mem_GW 2063 (by decide +kernel) rfl) mi_X12_tells (As := [aI 8, aI 112, aI (-1000), aI 1000]) (rest := [aI ((10 * v3) + x.1), aR 191]) (ct_X12_tells 8 112 (-1000) 1000 r16 (OK_bind hh)) (by decide) ⟨Nat.zero_le _, Nat.zero_le _⟩ rfl rfl (Nat.le_of_ble_eq_true rfl) (by decide) rfl (by decide) rfl (fun r F' h' hq1 => ?_)
      obtain ⟨rfl, r17, rfl, e9, hh⟩ := hq1
      subst h'
      obtain ⟨g18, hh⟩ := OK_g hh
      refine A_ast hM.1 rfl (Or.inl ⟨rfl, rfl, rfl⟩) rfl rfl rfl g18 ?_
      exact c_X12_gathers_j120 hM v3 x.1 (setH r17.2 191 ((w32 ((10 * v3) + x.1)).toNat) r17.1) hin hout0 hh
    · replace hh := OK_f hh hc
      refine A_go hM.1 rfl rfl ?_
      exact c_X12_gathers_j120 hM v3 x.1 x13 hin hout0 hh

set_option maxRecDepth 20000 in
set_option maxHeartbeats 4000000 in
theorem c_X12_gathers_l41 {k0 : K0} {G : Gx} {Qp : Option AV → Fx → Hp → Prop} (hM : MB (KM k0 0 0 Qp) G M_X12_gathers 5) (x : Int × Hp)   {P : ((Int × Hp) ⊕ (Hp)) → Prop} (hin : ∀ y : Int × Hp, P (.inl y) → ATk (KM k0 0 0 Qp) FN 0 0 M_X12_gathers 41 [some (aR 150), none, none, some (aI y.1), none, none] [] y.2) (hout0 : ∀ y : Hp, P (.inr y) → ATk (KM k0 0 0 Qp) FN 0 0 M_X12_gathers 124 [none, none, none, none, none, none] [] y) (hh : OK (X12_gathers_l41 x) P) : ATk (KM k0 0 0 Qp) FN 0 0 M_X12_gathers 41 [some (aR 150), none, none, some (aI x.1), none, none] [] x.2 := by
  unfold X12_gathers_l41 at hh
  refine A_blk hM.1 3 (lv1 := [some (aR 150), none, none, some (aI x.1), none, none]) (s1 := [aI (x.2 150 78), aI x.1]) (h1 := x.2) rfl ?_
  refine A_icmp hM.1 rfl rfl (fun hc => ?_) (fun hc => ?_)
  · replace hh := OK_t hh hc
    refine A_mask [false, true, true, false, true, true] (lv1 := [none, none, none, none, none, none]) rfl ?_
    exact hout0 x.2 hh
  · replace hh := OK_f hh hc
    refine A_blk hM.1 4 (lv1 := [some (aR 150), none, none, some (aI x.1), none, none]) (s1 := [aI 0, aI x.1, aR 190]) (h1 := x.2) rfl ?_
    obtain ⟨g6, hh⟩ := OK_g hh
    refine A_ast hM.1 rfl (Or.inl ⟨rfl, rfl, rfl⟩) rfl rfl rfl g6 ?_
    refine A_blk hM.1 2 (lv1 := [some (aR 150), none, none, some (aI x.1), some (aI 0), none]) (s1 := []) (h1 := setH x.2 190 ((w32 x.1).toNat) 0) rfl ?_
    refine iter_ok (s := (0, setH x.2 190 ((w32 x.1).toNat) 0)) (Gp := fun z => ATk (KM k0 0 0 Qp) FN 0 0 M_X12_gathers 52 [some (aR 150), none, none, some (aI x.1), some (aI z.1), none] [] z.2) (E := fun z => ATk (KM k0 0 0 Qp) FN 0 0 M_X12_gathers 122 [some (aR 150), none, none, some (aI x.1), none, none] [] z) (fun z P1 g1 g2 g3 => c_X12_gathers_l52 hM x.1 z g2 g3 g1) (OK_bind hh) (fun x19 hh => ?_)
    refine A_blk hM.1 1 (lv1 := [some (aR 150), none, none, some (aI (x.1 + 1)), none, none]) (s1 := []) (h1 := x19) rfl ?_
    refine A_go hM.1 rfl rfl ?_
    exact hin (x.1 + 1, x19) hh

set_option maxRecDepth 20000 in
set_option maxHeartbeats 4000000 in
theorem c_X12_gathers {k0 : K0} {G : Gx} {Qp : Option AV → Fx → Hp → Prop} (hM : MB (KM k0 0 0 Qp) G M_X12_gathers 5) (v1 : Int) (v2 : Int) (h : Hp)   {P : (Int × Hp) → Prop} (hq : ∀ z : Int × Hp, P z → Qp (some (aI z.1)) FN z.2) (hh : OK (X12_gathers v1 v2 h) P) : ATk (KM k0 0 0 Qp) FN 0 0 M_X12_gathers 0 [some (aR 150), some (aI v1), some (aI v2), none, none, none] [] h := by
  unfold X12_gathers at hh
  refine A_blk hM.1 5 (lv1 := [some (aR 150), some (aI v1), some (aI v2), some (aI 0), none, none]) (s1 := []) (h1 := setH h 150 78 0) rfl ?_
  refine iter_ok (s := (0, setH h 150 78 0)) (Gp := fun z => ATk (KM k0 0 0 Qp) FN 0 0 M_X12_gathers 5 [some (aR 150), some (aI v1), some (aI v2), some (aI z.1), none, none] [] z.2) (E := fun z => (∀ y, z = (.inl y) → ATk (KM k0 0 0 Qp) FN 0 0 M_X12_gathers 23 [none, none, none, none, none, none] [] y) ∧ (∀ y, z = (.inr y) → ATk (KM k0 0 0 Qp) FN 0 0 M_X12_gathers 39 [some (aR 150), none, none, none, none, none] [] y)) (fun z P1 g1 g2 g3 => c_X12_gathers_l5 hM v1 v2 z g2 (fun y hy => (g3 (.inl y) hy).1 y rfl) (fun y hy => (g3 (.inr y) hy).2 y rfl) g1) (OK_bind hh) (fun x3 hh => ?_)
  refine ⟨fun y e => ?_, fun y e => ?_⟩
  · obtain ⟨y4, rfl⟩ : ∃ z, z = y := ⟨_, rfl⟩
    subst e
    refine A_blk hM.1 1 (lv1 := [none, none, none, none, none, none]) (s1 := [aI 0]) (h1 := y4) rfl ?_
    exact A_retz hM.1 rfl rfl rfl (by decide) (hq (0, y4) hh)
  · obtain ⟨y5, rfl⟩ : ∃ z, z = y := ⟨_, rfl⟩
    subst e
    refine A_blk hM.1 2 (lv1 := [some (aR 150), none, none, some (aI 0), none, none]) (s1 := []) (h1 := y5) rfl ?_
    refine iter_ok (s := (0, y5)) (Gp := fun z => ATk (KM k0 0 0 Qp) FN 0 0 M_X12_gathers 41 [some (aR 150), none, none, some (aI z.1), none, none] [] z.2) (E := fun z => ATk (KM k0 0 0 Qp) FN 0 0 M_X12_gathers 124 [none, none, none, none, none, none] [] z) (fun z P1 g1 g2 g3 => c_X12_gathers_l41 hM  z g2 g3 g1) (OK_bind hh) (fun x20 hh => ?_)
    refine A_blk hM.1 1 (lv1 := [none, none, none, none, none, none]) (s1 := [aI 1]) (h1 := x20) rfl ?_
    exact A_retz hM.1 rfl rfl rfl (by decide) (hq (1, x20) hh)

set_option maxRecDepth 20000 in
set_option maxHeartbeats 4000000 in
theorem ct_X12_gathers {G : Gx} (v1 : Int) (v2 : Int) (h : Hp)   {P : (Int × Hp) → Prop} (hh : OK (X12_gathers v1 v2 h) P) : CT G yX12_gathers M_X12_gathers 5 0 0 FN h [aR 150, aI v1, aI v2] (fun r F' h' => F' = FN ∧ ∃ z, r = some (aI z.1) ∧ h' = z.2 ∧ P z) :=
  CT.of (by decide +kernel) rfl (Nat.le_of_ble_eq_true rfl) k_X12_gathers fun k0 _ _ hM => c_X12_gathers hM v1 v2 h (fun z hz => ⟨rfl, z, rfl, rfl, hz⟩) hh

theorem mi_X12_mayCome : MIv yX12_mayCome M_X12_mayCome 2 := ⟨⟨(mem_GW 2241 (by decide +kernel) rfl), (mem_GW 135 (by decide +kernel) rfl), by decide +kernel, by decide +kernel, by decide +kernel, by decide⟩, (mem_GW 2240 (by decide +kernel) rfl), (mem_GW 109 (by decide +kernel) rfl)⟩
set_option maxRecDepth 20000 in
set_option maxHeartbeats 4000000 in
theorem c_X12_mayCome {k0 : K0} {G : Gx} {Qp : Option AV → Fx → Hp → Prop} (hM : MB (KM k0 0 0 Qp) G M_X12_mayCome 2) (v1 : Int) (v2 : Int) (h : Hp)   {P : Int → Prop} (hq : ∀ z : Int, P z → Qp (some (aI z)) FN h) (hh : OK (X12_mayCome v1 v2 h) P) : ATk (KM k0 0 0 Qp) FN 0 0 M_X12_mayCome 0 [some (aR 150), some (aI v1), some (aI v2)] [] h := by
  unfold X12_mayCome at hh
  refine A_blk hM.1 3 (lv1 := [some (aR 150), some (aI v1), some (aI v2)]) (s1 := [aI v2, aL (w32 v1)]) (h1 := h) rfl ?_
  refine A_callS hM rfl rfl (mem_GW 2195 (by decide +kernel) rfl) mi_X12_has ms_X12_has (As := [aL (w32 v1), aI v2]) (rest := []) (ct_X12_has (w32 v1) v2 h (OK_bind hh)) (by decide) ⟨Nat.zero_le _, Nat.zero_le _⟩ rfl rfl (Nat.le_of_ble_eq_true rfl) (fun r F' h' hq1 => ?_)
  obtain ⟨rfl, r1, rfl, e9, hh⟩ := hq1
  subst h'
  refine A_ifc hM.1 rfl rfl (fun hc => ?_) (fun hc => ?_)
  · replace hh := OK_t hh hc
    refine A_blk hM.1 1 (lv1 := [some (aR 150), some (aI v1), some (aI v2)]) (s1 := [aI 0]) (h1 := h) rfl ?_
    exact A_retz hM.1 rfl rfl rfl (by decide) (hq 0 hh)
  · replace hh := OK_f hh hc
    refine A_blk hM.1 3 (lv1 := [some (aR 150), some (aI v1), some (aI v2)]) (s1 := [aI v2, aR 190]) (h1 := h) rfl ?_
    obtain ⟨g2, hh⟩ := OK_g hh
    refine A_ald hM.1 rfl (Or.inl ⟨rfl, rfl⟩) rfl (by decide) rfl g2 ?_
    refine A_blk hM.1 4 (lv1 := [some (aR 150), some (aI v1), some (aI v2)]) (s1 := [aI (and32 (h 190 ((w32 v2).toNat)) (xor32 v1 (-1)))]) (h1 := h) rfl ?_
    refine A_ifc hM.1 rfl rfl (fun hc => ?_) (fun hc => ?_)
    · replace hh := OK_t hh hc
      refine A_blk hM.1 1 (lv1 := [some (aR 150), some (aI v1), some (aI v2)]) (s1 := [aI 0]) (h1 := h) rfl ?_
      exact A_retz hM.1 rfl rfl rfl (by decide) (hq 0 hh)
    · replace hh := OK_f hh hc
      refine A_blk hM.1 1 (lv1 := [some (aR 150), some (aI v1), some (aI v2)]) (s1 := [aI 1]) (h1 := h) rfl ?_
      refine A_go hM.1 rfl rfl ?_
      exact A_retz hM.1 rfl rfl rfl (by decide) (hq 1 hh)

set_option maxRecDepth 20000 in
set_option maxHeartbeats 4000000 in
theorem ct_X12_mayCome {G : Gx} (v1 : Int) (v2 : Int) (h : Hp)   {P : Int → Prop} (hh : OK (X12_mayCome v1 v2 h) P) : CT G yX12_mayCome M_X12_mayCome 2 0 0 FN h [aR 150, aI v1, aI v2] (fun r F' h' => F' = FN ∧ ∃ z, r = some (aI z) ∧ h' = h ∧ P z) :=
  CT.of (by decide +kernel) rfl (Nat.le_of_ble_eq_true rfl) k_X12_mayCome fun k0 _ _ hM => c_X12_mayCome hM v1 v2 h (fun z hz => ⟨rfl, z, rfl, rfl, hz⟩) hh

theorem mi_X12_weighs : MIv yX12_weighs M_X12_weighs 2 := ⟨⟨(mem_GW 2237 (by decide +kernel) rfl), (mem_GW 135 (by decide +kernel) rfl), by decide +kernel, by decide +kernel, by decide +kernel, by decide⟩, (mem_GW 2236 (by decide +kernel) rfl), (mem_GW 108 (by decide +kernel) rfl)⟩
set_option maxRecDepth 20000 in
set_option maxHeartbeats 4000000 in
theorem c_X12_weighs_j79 {k0 : K0} {G : Gx} {Qp : Option AV → Fx → Hp → Prop} (hM : MB (KM k0 0 0 Qp) G M_X12_weighs 3) (v1 : Int) (v2 : Int) (v3 : Int) (v4 : Int) (v6 : Int) (h : Hp)   {P : ((Int × Int × Int × Hp) ⊕ (Int × Int × Hp)) → Prop} (hin : ∀ y : Int × Int × Int × Hp, P (.inl y) → ATk (KM k0 0 0 Qp) FN 0 0 M_X12_weighs 6 [some (aR 150), some (aI v1), some (aI v2), some (aI y.1), some (aL y.2.1), none, some (aI y.2.2.1), none, none, none] [] y.2.2.2) (hout0 : ∀ y : Int × Int × Hp, P (.inr y) → ATk (KM k0 0 0 Qp) FN 0 0 M_X12_weighs 81 [some (aR 150), some (aI v1), some (aI v2), some (aI y.1), some (aL y.2.1), none, none, none, none, none] [] y.2.2) (hh : OK (X12_weighs_j79 v1 v2 v3 v4 v6 h) P) : ATk (KM k0 0 0 Qp) FN 0 0 M_X12_weighs 79 [some (aR 150), some (aI v1), some (aI v2), some (aI v3), some (aL v4), none, some (aI v6), none, none, none] [] h := by
  unfold X12_weighs_j79 at hh
  refine A_blk hM.1 1 (lv1 := [some (aR 150), some (aI v1), some (aI v2), some (aI v3), some (aL v4), none, some (aI (v6 + 1)), none, none, none]) (s1 := []) (h1 := h) rfl ?_
  refine A_go hM.1 rfl rfl ?_
  exact hin (v3, v4, v6 + 1, h) hh

set_option maxRecDepth 20000 in
set_option maxHeartbeats 4000000 in
theorem c_X12_weighs_j67 {k0 : K0} {G : Gx} {Qp : Option AV → Fx → Hp → Prop} (hM : MB (KM k0 0 0 Qp) G M_X12_weighs 3) (v1 : Int) (v2 : Int) (v6 : Int) (v7 : Int) (v9 : Int) (h : Hp)   {P : ((Int × Int × Int × Hp) ⊕ (Int × Int × Hp)) → Prop} (hin : ∀ y : Int × Int × Int × Hp, P (.inl y) → ATk (KM k0 0 0 Qp) FN 0 0 M_X12_weighs 6 [some (aR 150), some (aI v1), some (aI v2), some (aI y.1), some (aL y.2.1), none, some (aI y.2.2.1), none, none, none] [] y.2.2.2) (hout0 : ∀ y : Int × Int × Hp, P (.inr y) → ATk (KM k0 0 0 Qp) FN 0 0 M_X12_weighs 81 [some (aR 150), some (aI v1), some (aI v2), some (aI y.1), some (aL y.2.1), none, none, none, none, none] [] y.2.2) (hh : OK (X12_weighs_j67 v1 v2 v6 v7 v9 h) P) : ATk (KM k0 0 0 Qp) FN 0 0 M_X12_weighs 67 [some (aR 150), some (aI v1), some (aI v2), none, none, none, some (aI v6), some (aL v7), none, some (aI v9)] [] h := by
  unfold X12_weighs_j67 at hh
  refine A_blk hM.1 4 (lv1 := [some (aR 150), some (aI v1), some (aI v2), some (aI v9), some (aL v7), none, some (aI v6), some (aL v7), none, some (aI v9)]) (s1 := []) (h1 := h) rfl ?_
  refine A_go hM.1 rfl rfl ?_
  refine A_mask [true, true, true, true, true, true, true, false, true, false] (lv1 := [some (aR 150), some (aI v1), some (aI v2), some (aI v9), some (aL v7), none, some (aI v6), none, none, none]) rfl ?_
  exact c_X12_weighs_j79 hM v1 v2 v9 v7 v6 h hin hout0 hh

set_option maxRecDepth 20000 in
set_option maxHeartbeats 4000000 in
theorem c_X12_weighs_j58 {k0 : K0} {G : Gx} {Qp : Option AV → Fx → Hp → Prop} (hM : MB (KM k0 0 0 Qp) G M_X12_weighs 3) (v1 : Int) (v2 : Int) (v3 : Int) (v4 : Int) (v6 : Int) (v7 : Int) (s0 : Int) (s1 : Int) (h : Hp)   {P : ((Int × Int × Int × Hp) ⊕ (Int × Int × Hp)) → Prop} (hin : ∀ y : Int × Int × Int × Hp, P (.inl y) → ATk (KM k0 0 0 Qp) FN 0 0 M_X12_weighs 6 [some (aR 150), some (aI v1), some (aI v2), some (aI y.1), some (aL y.2.1), none, some (aI y.2.2.1), none, none, none] [] y.2.2.2) (hout0 : ∀ y : Int × Int × Hp, P (.inr y) → ATk (KM k0 0 0 Qp) FN 0 0 M_X12_weighs 81 [some (aR 150), some (aI v1), some (aI v2), some (aI y.1), some (aL y.2.1), none, none, none, none, none] [] y.2.2) (hh : OK (X12_weighs_j58 v1 v2 v3 v4 v6 v7 s0 s1 h) P) : ATk (KM k0 0 0 Qp) FN 0 0 M_X12_weighs 58 [some (aR 150), some (aI v1), some (aI v2), some (aI v3), some (aL v4), none, some (aI v6), some (aL v7), none, none] [aI s1, aI s0] h := by
  unfold X12_weighs_j58 at hh
  refine A_blk hM.1 5 (lv1 := [some (aR 150), some (aI v1), some (aI v2), some (aI v3), some (aL v4), none, some (aI v6), some (aL v7), none, some (aI (s0 + s1))]) (s1 := [aI (cmp64 v4 0)]) (h1 := h) rfl ?_
  refine A_ifc hM.1 rfl rfl (fun hc => ?_) (fun hc => ?_)
  · replace hh := OK_t hh hc
    refine A_mask [true, true, true, false, false, true, true, true, true, true] (lv1 := [some (aR 150), some (aI v1), some (aI v2), none, none, none, some (aI v6), some (aL v7), none, some (aI (s0 + s1))]) rfl ?_
    exact c_X12_weighs_j67 hM v1 v2 v6 v7 (s0 + s1) h hin hout0 hh
  · replace hh := OK_f hh hc
    refine A_blk hM.1 2 (lv1 := [some (aR 150), some (aI v1), some (aI v2), some (aI v3), some (aL v4), none, some (aI v6), some (aL v7), none, some (aI (s0 + s1))]) (s1 := [aI v3, aI (s0 + s1)]) (h1 := h) rfl ?_
    refine A_icmp hM.1 rfl rfl (fun hc => ?_) (fun hc => ?_)
    · replace hh := OK_t hh hc
      refine A_blk hM.1 2 (lv1 := [some (aR 150), some (aI v1), some (aI v2), some (aI v3), some (aL v4), none, some (aI v6), some (aL v7), none, some (aI (s0 + s1))]) (s1 := [aI v3, aI (s0 + s1)]) (h1 := h) rfl ?_
      refine A_icmp hM.1 rfl rfl (fun hc => ?_) (fun hc => ?_)
      · replace hh := OK_t hh hc
        refine A_mask [true, true, true, true, true, true, true, false, true, false] (lv1 := [some (aR 150), some (aI v1), some (aI v2), some (aI v3), some (aL v4), none, some (aI v6), none, none, none]) rfl ?_
        exact c_X12_weighs_j79 hM v1 v2 v3 v4 v6 h hin hout0 hh
      · replace hh := OK_f hh hc
        refine A_blk hM.1 4 (lv1 := [some (aR 150), some (aI v1), some (aI v2), some (aI v3), some (aL (v4 + v7)), none, some (aI v6), some (aL v7), none, some (aI (s0 + s1))]) (s1 := []) (h1 := h) rfl ?_
        refine A_mask [true, true, true, true, true, true, true, false, true, false] (lv1 := [some (aR 150), some (aI v1), some (aI v2), some (aI v3), some (aL (v4 + v7)), none, some (aI v6), none, none, none]) rfl ?_
        exact c_X12_weighs_j79 hM v1 v2 v3 (v4 + v7) v6 h hin hout0 hh
    · replace hh := OK_f hh hc
      refine A_mask [true, true, true, false, false, true, true, true, true, true] (lv1 := [some (aR 150), some (aI v1), some (aI v2), none, none, none, some (aI v6), some (aL v7), none, some (aI (s0 + s1))]) rfl ?_
      exact c_X12_weighs_j67 hM v1 v2 v6 v7 (s0 + s1) h hin hout0 hh

set_option maxRecDepth 20000 in
set_option maxHeartbeats 4000000 in
theorem c_X12_weighs_l6 {k0 : K0} {G : Gx} {Qp : Option AV → Fx → Hp → Prop} (hM : MB (KM k0 0 0 Qp) G M_X12_weighs 3) (v1 : Int) (v2 : Int) (x : Int × Int × Int × Hp)   {P : ((Int × Int × Int × Hp) ⊕ (Int × Int × Hp)) → Prop} (hin : ∀ y : Int × Int × Int × Hp, P (.inl y) → ATk (KM k0 0 0 Qp) FN 0 0 M_X12_weighs 6 [some (aR 150), some (aI v1), some (aI v2), some (aI y.1), some (aL y.2.1), none, some (aI y.2.2.1), none, none, none] [] y.2.2.2) (hout0 : ∀ y : Int × Int × Hp, P (.inr y) → ATk (KM k0 0 0 Qp) FN 0 0 M_X12_weighs 81 [some (aR 150), some (aI v1), some (aI v2), some (aI y.1), some (aL y.2.1), none, none, none, none, none] [] y.2.2) (hh : OK (X12_weighs_l6 v1 v2 x) P) : ATk (KM k0 0 0 Qp) FN 0 0 M_X12_weighs 6 [some (aR 150), some (aI v1), some (aI v2), some (aI x.1), some (aL x.2.1), none, some (aI x.2.2.1), none, none, none] [] x.2.2.2 := by
  unfold X12_weighs_l6 at hh
  refine A_blk hM.1 3 (lv1 := [some (aR 150), some (aI v1), some (aI v2), some (aI x.1), some (aL x.2.1), none, some (aI x.2.2.1), none, none, none]) (s1 := [aI (x.2.2.2 150 78), aI x.2.2.1]) (h1 := x.2.2.2) rfl ?_
  refine A_icmp hM.1 rfl rfl (fun hc => ?_) (fun hc => ?_)
  · replace hh := OK_t hh hc
    refine A_mask [true, true, true, true, true, true, false, true, true, true] (lv1 := [some (aR 150), some (aI v1), some (aI v2), some (aI x.1), some (aL x.2.1), none, none, none, none, none]) rfl ?_
    exact hout0 (x.1, x.2.1, x.2.2.2) hh
  · replace hh := OK_f hh hc
    refine A_blk hM.1 3 (lv1 := [some (aR 150), some (aI v1), some (aI v2), some (aI x.1), some (aL x.2.1), none, some (aI x.2.2.1), none, none, none]) (s1 := [aI x.2.2.1, aI v1, aR 150]) (h1 := x.2.2.2) rfl ?_
    refine A_callV hM rfl rfl (mem_GW 2238 (by decide +kernel) rfl) mi_X12_mayCome (As := [aI v1, aI x.2.2.1]) (rest := []) (ct_X12_mayCome v1 x.2.2.1 x.2.2.2 (OK_bind hh)) (by decide) ⟨Nat.zero_le _, Nat.zero_le _⟩ rfl rfl (Nat.le_of_ble_eq_true rfl) (by decide) rfl (by decide) rfl (fun r F' h' hq1 => ?_)
    obtain ⟨rfl, r1, rfl, e9, hh⟩ := hq1
    subst h'
    refine A_ifc hM.1 rfl rfl (fun hc => ?_) (fun hc => ?_)
    · replace hh := OK_t hh hc
      refine A_blk hM.1 11 (lv1 := [some (aR 150), some (aI v1), some (aI v2), some (aI x.1), some (aL x.2.1), none, some (aI x.2.2.1), none, none, none]) (s1 := [aI ((10 * (or32 v1 (shl32 1 x.2.2.1))) + x.2.2.1), aR 193]) (h1 := x.2.2.2) rfl ?_
      obtain ⟨g2, hh⟩ := OK_g hh
      refine A_lald hM.1 rfl rfl rfl (by decide) rfl g2 ?_
      refine A_blk hM.1 4 (lv1 := [some (aR 150), some (aI v1), some (aI v2), some (aI x.1), some (aL x.2.1), none, some (aI x.2.2.1), some (aL (x.2.2.2 193 ((w32 ((10 * (or32 v1 (shl32 1 x.2.2.1))) + x.2.2.1)).toNat))), none, none]) (s1 := [aI (cmp64 (x.2.2.2 193 ((w32 ((10 * (or32 v1 (shl32 1 x.2.2.1))) + x.2.2.1)).toNat)) 0)]) (h1 := x.2.2.2) rfl ?_
      refine A_ifc hM.1 rfl rfl (fun hc => ?_) (fun hc => ?_)
      · replace hh := OK_t hh hc
        refine A_blk hM.1 11 (lv1 := [some (aR 150), some (aI v1), some (aI v2), some (aI x.1), some (aL x.2.1), none, some (aI x.2.2.1), some (aL (x.2.2.2 193 ((w32 ((10 * (or32 v1 (shl32 1 x.2.2.1))) + x.2.2.1)).toNat))), none, none]) (s1 := [aI ((10 * (or32 v1 (shl32 1 x.2.2.1))) + x.2.2.1), aR 192]) (h1 := x.2.2.2) rfl ?_
        obtain ⟨g3, hh⟩ := OK_g hh
        refine A_ald hM.1 rfl (Or.inl ⟨rfl, rfl⟩) rfl (by decide) rfl g3 ?_
        refine A_blk hM.1 1 (lv1 := [some (aR 150), some (aI v1), some (aI v2), some (aI x.1), some (aL x.2.1), none, some (aI x.2.2.1), some (aL (x.2.2.2 193 ((w32 ((10 * (or32 v1 (shl32 1 x.2.2.1))) + x.2.2.1)).toNat))), none, none]) (s1 := [aI v1, aI (x.2.2.2 192 ((w32 ((10 * (or32 v1 (shl32 1 x.2.2.1))) + x.2.2.1)).toNat))]) (h1 := x.2.2.2) rfl ?_
        refine A_ifc hM.1 rfl rfl (fun hc => ?_) (fun hc => ?_)
        · replace hh := OK_t hh hc
          refine A_blk hM.1 7 (lv1 := [some (aR 150), some (aI v1), some (aI v2), some (aI x.1), some (aL x.2.1), none, some (aI x.2.2.1), some (aL (x.2.2.2 193 ((w32 ((10 * (or32 v1 (shl32 1 x.2.2.1))) + x.2.2.1)).toNat))), none, none]) (s1 := [aI ((10 * v2) + x.2.2.1), aR 191, aI (x.2.2.2 192 ((w32 ((10 * (or32 v1 (shl32 1 x.2.2.1))) + x.2.2.1)).toNat))]) (h1 := x.2.2.2) rfl ?_
          obtain ⟨g4, hh⟩ := OK_g hh
          refine A_ald hM.1 rfl (Or.inl ⟨rfl, rfl⟩) rfl (by decide) rfl g4 ?_
          exact c_X12_weighs_j58 hM v1 v2 x.1 x.2.1 x.2.2.1 (x.2.2.2 193 ((w32 ((10 * (or32 v1 (shl32 1 x.2.2.1))) + x.2.2.1)).toNat)) (x.2.2.2 192 ((w32 ((10 * (or32 v1 (shl32 1 x.2.2.1))) + x.2.2.1)).toNat)) (x.2.2.2 191 ((w32 ((10 * v2) + x.2.2.1)).toNat)) x.2.2.2 hin hout0 hh
        · replace hh := OK_f hh hc
          refine A_blk hM.1 1 (lv1 := [some (aR 150), some (aI v1), some (aI v2), some (aI x.1), some (aL x.2.1), none, some (aI x.2.2.1), some (aL (x.2.2.2 193 ((w32 ((10 * (or32 v1 (shl32 1 x.2.2.1))) + x.2.2.1)).toNat))), none, none]) (s1 := [aI 0, aI (x.2.2.2 192 ((w32 ((10 * (or32 v1 (shl32 1 x.2.2.1))) + x.2.2.1)).toNat))]) (h1 := x.2.2.2) rfl ?_
          refine A_go hM.1 rfl rfl ?_
          exact c_X12_weighs_j58 hM v1 v2 x.1 x.2.1 x.2.2.1 (x.2.2.2 193 ((w32 ((10 * (or32 v1 (shl32 1 x.2.2.1))) + x.2.2.1)).toNat)) (x.2.2.2 192 ((w32 ((10 * (or32 v1 (shl32 1 x.2.2.1))) + x.2.2.1)).toNat)) 0 x.2.2.2 hin hout0 hh
      · replace hh := OK_f hh hc
        refine A_go hM.1 rfl rfl ?_
        refine A_mask [true, true, true, true, true, true, true, false, true, true] (lv1 := [some (aR 150), some (aI v1), some (aI v2), some (aI x.1), some (aL x.2.1), none, some (aI x.2.2.1), none, none, none]) rfl ?_
        exact c_X12_weighs_j79 hM v1 v2 x.1 x.2.1 x.2.2.1 x.2.2.2 hin hout0 hh
    · replace hh := OK_f hh hc
      refine A_go hM.1 rfl rfl ?_
      exact c_X12_weighs_j79 hM v1 v2 x.1 x.2.1 x.2.2.1 x.2.2.2 hin hout0 hh

set_option maxRecDepth 20000 in
set_option maxHeartbeats 4000000 in
theorem c_X12_weighs {k0 : K0} {G : Gx} {Qp : Option AV → Fx → Hp → Prop} (hM : MB (KM k0 0 0 Qp) G M_X12_weighs 3) (v1 : Int) (v2 : Int) (h : Hp)   {P : Hp → Prop} (hq : ∀ z : Hp, P z → Qp none FN z) (hh : OK (X12_weighs v1 v2 h) P) : ATk (KM k0 0 0 Qp) FN 0 0 M_X12_weighs 0 [some (aR 150), some (aI v1), some (aI v2), none, none, none, none, none, none, none] [] h := by
  unfold X12_weighs at hh
  refine A_blk hM.1 6 (lv1 := [some (aR 150), some (aI v1), some (aI v2), some (aI 0), some (aL 0), none, some (aI 0), none, none, none]) (s1 := []) (h1 := h) rfl ?_
  refine iter_ok (s := (0, 0, 0, h)) (Gp := fun z => ATk (KM k0 0 0 Qp) FN 0 0 M_X12_weighs 6 [some (aR 150), some (aI v1), some (aI v2), some (aI z.1), some (aL z.2.1), none, some (aI z.2.2.1), none, none, none] [] z.2.2.2) (E := fun z => ATk (KM k0 0 0 Qp) FN 0 0 M_X12_weighs 81 [some (aR 150), some (aI v1), some (aI v2), some (aI z.1), some (aL z.2.1), none, none, none, none, none] [] z.2.2) (fun z P1 g1 g2 g3 => c_X12_weighs_l6 hM v1 v2 z g2 g3 g1) (OK_bind hh) (fun x5 hh => ?_)
  refine A_blk hM.1 8 (lv1 := [some (aR 150), some (aI v1), some (aI v2), some (aI x5.1), some (aL x5.2.1), none, none, none, none, none]) (s1 := [aI x5.1, aI ((10 * v1) + v2), aR 192]) (h1 := x5.2.2) rfl ?_
  obtain ⟨g6, hh⟩ := OK_g hh
  refine A_ast hM.1 rfl (Or.inl ⟨rfl, rfl, rfl⟩) rfl rfl rfl g6 ?_
  refine A_blk hM.1 8 (lv1 := [some (aR 150), some (aI v1), some (aI v2), some (aI x5.1), some (aL x5.2.1), none, none, none, none, none]) (s1 := [aL x5.2.1, aI ((10 * v1) + v2), aR 193]) (h1 := setH x5.2.2 192 ((w32 ((10 * v1) + v2)).toNat) x5.1) rfl ?_
  obtain ⟨g7, hh⟩ := OK_g hh
  refine A_last hM.1 rfl rfl rfl rfl rfl g7 ?_
  exact A_retv hM.1 rfl rfl rfl (hq (setH (setH x5.2.2 192 ((w32 ((10 * v1) + v2)).toNat) x5.1) 193 ((w32 ((10 * v1) + v2)).toNat) x5.2.1) hh)

set_option maxRecDepth 20000 in
set_option maxHeartbeats 4000000 in
theorem ct_X12_weighs {G : Gx} (v1 : Int) (v2 : Int) (h : Hp)   {P : Hp → Prop} (hh : OK (X12_weighs v1 v2 h) P) : CT G yX12_weighs M_X12_weighs 3 0 0 FN h [aR 150, aI v1, aI v2] (fun r F' h' => F' = FN ∧ r = none ∧ P h') :=
  CT.of (by decide +kernel) rfl (Nat.le_of_ble_eq_true rfl) k_X12_weighs fun k0 _ _ hM => c_X12_weighs hM v1 v2 h (fun z hz => ⟨rfl, rfl, hz⟩) hh

