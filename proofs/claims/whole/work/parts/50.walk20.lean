set_option linter.all false
theorem mi_X12_men : MIv yX12_men M_X12_men 2 := ⟨⟨(mem_GW 2319 (by decide +kernel) rfl), (mem_GW 135 (by decide +kernel) rfl), by decide +kernel, by decide +kernel, by decide +kernel, by decide⟩, (mem_GW 2317 (by decide +kernel) rfl), (mem_GW 2318 (by decide +kernel) rfl)⟩
set_option maxRecDepth 20000 in
set_option maxHeartbeats 4000000 in
theorem c_X12_men_j55 {k0 : K0} {G : Gx} {Qp : Option AV → Fx → Hp → Prop} (hM : MB (KM k0 0 0 Qp) G M_X12_men 3) (v1 : Int) (v2 : Int) (v3 : Int) (h : Hp)   {P : ((Int × Hp) ⊕ ((Hp) ⊕ (Hp))) → Prop} (hin : ∀ y : Int × Hp, P (.inl y) → ATk (KM k0 0 0 Qp) FN 0 0 M_X12_men 17 [some (aR 150), some (aI v1), some (aI v2), some (aI y.1), none, none, none, none, none] [] y.2) (hout0 : ∀ y : Hp, P (.inr (.inl y)) → ATk (KM k0 0 0 Qp) FN 0 0 M_X12_men 41 [none, none, none, none, none, none, none, none, none] [] y) (hout1 : ∀ y : Hp, P (.inr (.inr y)) → ATk (KM k0 0 0 Qp) FN 0 0 M_X12_men 57 [some (aR 150), none, some (aI v2), none, none, none, none, none, none] [] y) (hh : OK (X12_men_j55 v1 v2 v3 h) P) : ATk (KM k0 0 0 Qp) FN 0 0 M_X12_men 55 [some (aR 150), some (aI v1), some (aI v2), some (aI v3), none, none, none, none, none] [] h := by
  unfold X12_men_j55 at hh
  refine A_blk hM.1 1 (lv1 := [some (aR 150), some (aI v1), some (aI v2), some (aI (v3 + 1)), none, none, none, none, none]) (s1 := []) (h1 := h) rfl ?_
  refine A_go hM.1 rfl rfl ?_
  exact hin (v3 + 1, h) hh

set_option maxRecDepth 20000 in
set_option maxHeartbeats 4000000 in
theorem c_X12_men_l17 {k0 : K0} {G : Gx} {Qp : Option AV → Fx → Hp → Prop} (hM : MB (KM k0 0 0 Qp) G M_X12_men 3) (v1 : Int) (v2 : Int) (x : Int × Hp)   {P : ((Int × Hp) ⊕ ((Hp) ⊕ (Hp))) → Prop} (hin : ∀ y : Int × Hp, P (.inl y) → ATk (KM k0 0 0 Qp) FN 0 0 M_X12_men 17 [some (aR 150), some (aI v1), some (aI v2), some (aI y.1), none, none, none, none, none] [] y.2) (hout0 : ∀ y : Hp, P (.inr (.inl y)) → ATk (KM k0 0 0 Qp) FN 0 0 M_X12_men 41 [none, none, none, none, none, none, none, none, none] [] y) (hout1 : ∀ y : Hp, P (.inr (.inr y)) → ATk (KM k0 0 0 Qp) FN 0 0 M_X12_men 57 [some (aR 150), none, some (aI v2), none, none, none, none, none, none] [] y) (hh : OK (X12_men_l17 v1 v2 x) P) : ATk (KM k0 0 0 Qp) FN 0 0 M_X12_men 17 [some (aR 150), some (aI v1), some (aI v2), some (aI x.1), none, none, none, none, none] [] x.2 := by
  unfold X12_men_l17 at hh
  refine A_blk hM.1 3 (lv1 := [some (aR 150), some (aI v1), some (aI v2), some (aI x.1), none, none, none, none, none]) (s1 := [aI (x.2 150 5), aI x.1]) (h1 := x.2) rfl ?_
  refine A_icmp hM.1 rfl rfl (fun hc => ?_) (fun hc => ?_)
  · replace hh := OK_t hh hc
    refine A_mask [true, false, true, false, true, true, true, true, true] (lv1 := [some (aR 150), none, some (aI v2), none, none, none, none, none, none]) rfl ?_
    exact hout1 x.2 hh
  · replace hh := OK_f hh hc
    refine A_blk hM.1 3 (lv1 := [some (aR 150), some (aI v1), some (aI v2), some (aI x.1), none, none, none, none, none]) (s1 := [aI x.1, aR 161]) (h1 := x.2) rfl ?_
    obtain ⟨g3, hh⟩ := OK_g hh
    refine A_ald hM.1 rfl (Or.inl ⟨rfl, rfl⟩) rfl (by decide) rfl g3 ?_
    refine A_blk hM.1 1 (lv1 := [some (aR 150), some (aI v1), some (aI v2), some (aI x.1), none, none, none, none, none]) (s1 := [aI (-1), aI (x.2 161 ((w32 x.1).toNat))]) (h1 := x.2) rfl ?_
    refine A_icmp hM.1 rfl rfl (fun hc => ?_) (fun hc => ?_)
    · replace hh := OK_t hh hc
      exact c_X12_men_j55 hM v1 v2 x.1 x.2 hin hout0 hout1 hh
    · replace hh := OK_f hh hc
      refine A_blk hM.1 5 (lv1 := [some (aR 150), some (aI v1), some (aI v2), some (aI x.1), none, none, none, none, none]) (s1 := [aI x.1, aR 161, aR 154]) (h1 := x.2) rfl ?_
      obtain ⟨g4, hh⟩ := OK_g hh
      refine A_ald hM.1 rfl (Or.inl ⟨rfl, rfl⟩) rfl (by decide) rfl g4 ?_
      obtain ⟨g5, hh⟩ := OK_g hh
      refine A_ald hM.1 rfl (Or.inl ⟨rfl, rfl⟩) rfl (by decide) rfl g5 ?_
      refine A_blk hM.1 1 (lv1 := [some (aR 150), some (aI v1), some (aI v2), some (aI x.1), none, none, none, none, none]) (s1 := [aI v1, aI (x.2 154 ((w32 (x.2 161 ((w32 x.1).toNat))).toNat))]) (h1 := x.2) rfl ?_
      refine A_icmp hM.1 rfl rfl (fun hc => ?_) (fun hc => ?_)
      · replace hh := OK_t hh hc
        refine A_blk hM.1 3 (lv1 := [some (aR 150), some (aI v1), some (aI v2), some (aI x.1), none, none, none, none, none]) (s1 := [aI 10, aI (x.2 150 78)]) (h1 := x.2) rfl ?_
        refine A_icmp hM.1 rfl rfl (fun hc => ?_) (fun hc => ?_)
        · replace hh := OK_t hh hc
          refine A_blk hM.1 5 (lv1 := [some (aR 150), some (aI v1), some (aI v2), some (aI x.1), none, none, none, none, none]) (s1 := [aI x.1, aI (x.2 150 78), aR 189]) (h1 := x.2) rfl ?_
          obtain ⟨g6, hh⟩ := OK_g hh
          refine A_ast hM.1 rfl (Or.inl ⟨rfl, rfl, rfl⟩) rfl rfl rfl g6 ?_
          refine A_blk hM.1 6 (lv1 := [some (aR 150), some (aI v1), some (aI v2), some (aI x.1), none, none, none, none, none]) (s1 := []) (h1 := setH (setH x.2 189 ((w32 (x.2 150 78)).toNat) x.1) 150 78 ((x.2 150 78) + 1)) rfl ?_
          exact c_X12_men_j55 hM v1 v2 x.1 (setH (setH x.2 189 ((w32 (x.2 150 78)).toNat) x.1) 150 78 ((x.2 150 78) + 1)) hin hout0 hout1 hh
        · replace hh := OK_f hh hc
          refine A_mask [false, false, false, false, true, true, true, true, true] (lv1 := [none, none, none, none, none, none, none, none, none]) rfl ?_
          exact hout0 x.2 hh
      · replace hh := OK_f hh hc
        refine A_go hM.1 rfl rfl ?_
        exact c_X12_men_j55 hM v1 v2 x.1 x.2 hin hout0 hout1 hh

set_option maxRecDepth 20000 in
set_option maxHeartbeats 4000000 in
theorem c_X12_men_j119 {k0 : K0} {G : Gx} {Qp : Option AV → Fx → Hp → Prop} (hM : MB (KM k0 0 0 Qp) G M_X12_men 3) (v2 : Int) (v3 : Int) (v4 : Int) (v5 : Int) (v7 : Int) (v8 : Int) (s0 : Int) (s1 : Int) (h : Hp)   {P : ((Int × Int × Hp) ⊕ (Int × Hp)) → Prop} (hin : ∀ y : Int × Int × Hp, P (.inl y) → ATk (KM k0 0 0 Qp) FN 0 0 M_X12_men 84 [some (aR 150), none, some (aI v2), some (aI v3), some (aI v4), some (aI v5), some (aI y.1), some (aI v7), some (aI y.2.1)] [] y.2.2) (hout0 : ∀ y : Int × Hp, P (.inr y) → ATk (KM k0 0 0 Qp) FN 0 0 M_X12_men 123 [some (aR 150), none, some (aI v2), some (aI v3), some (aI v4), some (aI v5), some (aI y.1), some (aI v7), none] [] y.2) (hh : OK (X12_men_j119 v2 v3 v4 v5 v7 v8 s0 s1 h) P) : ATk (KM k0 0 0 Qp) FN 0 0 M_X12_men 119 [some (aR 150), none, some (aI v2), some (aI v3), some (aI v4), some (aI v5), none, some (aI v7), some (aI v8)] [aI s1, aI s0] h := by
  unfold X12_men_j119 at hh
  refine A_blk hM.1 3 (lv1 := [some (aR 150), none, some (aI v2), some (aI v3), some (aI v4), some (aI v5), some (aI (s0 + s1)), some (aI v7), some (aI (v8 + 1))]) (s1 := []) (h1 := h) rfl ?_
  refine A_go hM.1 rfl rfl ?_
  exact hin (s0 + s1, v8 + 1, h) hh

set_option maxRecDepth 20000 in
set_option maxHeartbeats 4000000 in
theorem c_X12_men_l84 {k0 : K0} {G : Gx} {Qp : Option AV → Fx → Hp → Prop} (hM : MB (KM k0 0 0 Qp) G M_X12_men 3) (v2 : Int) (v3 : Int) (v4 : Int) (v5 : Int) (v7 : Int) (x : Int × Int × Hp)   {P : ((Int × Int × Hp) ⊕ (Int × Hp)) → Prop} (hin : ∀ y : Int × Int × Hp, P (.inl y) → ATk (KM k0 0 0 Qp) FN 0 0 M_X12_men 84 [some (aR 150), none, some (aI v2), some (aI v3), some (aI v4), some (aI v5), some (aI y.1), some (aI v7), some (aI y.2.1)] [] y.2.2) (hout0 : ∀ y : Int × Hp, P (.inr y) → ATk (KM k0 0 0 Qp) FN 0 0 M_X12_men 123 [some (aR 150), none, some (aI v2), some (aI v3), some (aI v4), some (aI v5), some (aI y.1), some (aI v7), none] [] y.2) (hh : OK (X12_men_l84 v2 v3 v4 v5 v7 x) P) : ATk (KM k0 0 0 Qp) FN 0 0 M_X12_men 84 [some (aR 150), none, some (aI v2), some (aI v3), some (aI v4), some (aI v5), some (aI x.1), some (aI v7), some (aI x.2.1)] [] x.2.2 := by
  unfold X12_men_l84 at hh
  refine A_blk hM.1 2 (lv1 := [some (aR 150), none, some (aI v2), some (aI v3), some (aI v4), some (aI v5), some (aI x.1), some (aI v7), some (aI x.2.1)]) (s1 := [aI v7, aI x.2.1]) (h1 := x.2.2) rfl ?_
  refine A_icmp hM.1 rfl rfl (fun hc => ?_) (fun hc => ?_)
  · replace hh := OK_t hh hc
    refine A_mask [true, true, true, true, true, true, true, true, false] (lv1 := [some (aR 150), none, some (aI v2), some (aI v3), some (aI v4), some (aI v5), some (aI x.1), some (aI v7), none]) rfl ?_
    exact hout0 (x.1, x.2.2) hh
  · replace hh := OK_f hh hc
    refine A_blk hM.1 4 (lv1 := [some (aR 150), none, some (aI v2), some (aI v3), some (aI v4), some (aI v5), some (aI x.1), some (aI v7), some (aI x.2.1)]) (s1 := [aI v7, aL (w32 v5), aI x.1]) (h1 := x.2.2) rfl ?_
    refine A_callS hM rfl rfl (mem_GW 2195 (by decide +kernel) rfl) mi_X12_has ms_X12_has (As := [aL (w32 v5), aI v7]) (rest := [aI x.1]) (ct_X12_has (w32 v5) v7 x.2.2 (OK_bind hh)) (by decide) ⟨Nat.zero_le _, Nat.zero_le _⟩ rfl rfl (Nat.le_of_ble_eq_true rfl) (fun r F' h' hq1 => ?_)
    obtain ⟨rfl, r10, rfl, e9, hh⟩ := hq1
    subst h'
    refine A_blk hM.1 3 (lv1 := [some (aR 150), none, some (aI v2), some (aI v3), some (aI v4), some (aI v5), some (aI x.1), some (aI v7), some (aI x.2.1)]) (s1 := [aI x.2.1, aL (w32 v5), aI r10, aI x.1]) (h1 := x.2.2) rfl ?_
    refine A_callS hM rfl rfl (mem_GW 2195 (by decide +kernel) rfl) mi_X12_has ms_X12_has (As := [aL (w32 v5), aI x.2.1]) (rest := [aI r10, aI x.1]) (ct_X12_has (w32 v5) x.2.1 x.2.2 (OK_bind hh)) (by decide) ⟨Nat.zero_le _, Nat.zero_le _⟩ rfl rfl (Nat.le_of_ble_eq_true rfl) (fun r F' h' hq1 => ?_)
    obtain ⟨rfl, r11, rfl, e9, hh⟩ := hq1
    subst h'
    refine A_icmp hM.1 rfl rfl (fun hc => ?_) (fun hc => ?_)
    · replace hh := OK_t hh hc
      refine A_blk hM.1 4 (lv1 := [some (aR 150), none, some (aI v2), some (aI v3), some (aI v4), some (aI v5), some (aI x.1), some (aI v7), some (aI x.2.1)]) (s1 := [aI v7, aR 189, aR 150, aI x.1]) (h1 := x.2.2) rfl ?_
      obtain ⟨g12, hh⟩ := OK_g hh
      refine A_ald hM.1 rfl (Or.inl ⟨rfl, rfl⟩) rfl (by decide) rfl g12 ?_
      refine A_blk hM.1 3 (lv1 := [some (aR 150), none, some (aI v2), some (aI v3), some (aI v4), some (aI v5), some (aI x.1), some (aI v7), some (aI x.2.1)]) (s1 := [aI x.2.1, aR 189, aI (x.2.2 189 ((w32 v7).toNat)), aR 150, aI x.1]) (h1 := x.2.2) rfl ?_
      obtain ⟨g13, hh⟩ := OK_g hh
      refine A_ald hM.1 rfl (Or.inl ⟨rfl, rfl⟩) rfl (by decide) rfl g13 ?_
      refine A_callV hM rfl rfl (mem_GW 2321 (by decide +kernel) rfl) mi_X12_alikeOf (As := [aI (x.2.2 189 ((w32 v7).toNat)), aI (x.2.2 189 ((w32 x.2.1).toNat))]) (rest := [aI x.1]) (ct_X12_alikeOf (x.2.2 189 ((w32 v7).toNat)) (x.2.2 189 ((w32 x.2.1).toNat)) x.2.2 (OK_bind hh)) (by decide) ⟨Nat.zero_le _, Nat.zero_le _⟩ rfl rfl (Nat.le_of_ble_eq_true rfl) (by decide) rfl (by decide) rfl (fun r F' h' hq1 => ?_)
      obtain ⟨rfl, r14, rfl, e9, hh⟩ := hq1
      subst h'
      refine A_blk hM.1 1 (lv1 := [some (aR 150), none, some (aI v2), some (aI v3), some (aI v4), some (aI v5), some (aI x.1), some (aI v7), some (aI x.2.1)]) (s1 := [aI (-r14), aI x.1]) (h1 := x.2.2) rfl ?_
      refine A_mask [true, true, true, true, true, true, false, true, true] (lv1 := [some (aR 150), none, some (aI v2), some (aI v3), some (aI v4), some (aI v5), none, some (aI v7), some (aI x.2.1)]) rfl ?_
      exact c_X12_men_j119 hM v2 v3 v4 v5 v7 x.2.1 x.1 (-r14) x.2.2 hin hout0 hh
    · replace hh := OK_f hh hc
      refine A_blk hM.1 4 (lv1 := [some (aR 150), none, some (aI v2), some (aI v3), some (aI v4), some (aI v5), some (aI x.1), some (aI v7), some (aI x.2.1)]) (s1 := [aI v7, aR 189, aR 150, aI x.1]) (h1 := x.2.2) rfl ?_
      obtain ⟨g15, hh⟩ := OK_g hh
      refine A_ald hM.1 rfl (Or.inl ⟨rfl, rfl⟩) rfl (by decide) rfl g15 ?_
      refine A_blk hM.1 3 (lv1 := [some (aR 150), none, some (aI v2), some (aI v3), some (aI v4), some (aI v5), some (aI x.1), some (aI v7), some (aI x.2.1)]) (s1 := [aI x.2.1, aR 189, aI (x.2.2 189 ((w32 v7).toNat)), aR 150, aI x.1]) (h1 := x.2.2) rfl ?_
      obtain ⟨g16, hh⟩ := OK_g hh
      refine A_ald hM.1 rfl (Or.inl ⟨rfl, rfl⟩) rfl (by decide) rfl g16 ?_
      refine A_callV hM rfl rfl (mem_GW 2321 (by decide +kernel) rfl) mi_X12_alikeOf (As := [aI (x.2.2 189 ((w32 v7).toNat)), aI (x.2.2 189 ((w32 x.2.1).toNat))]) (rest := [aI x.1]) (ct_X12_alikeOf (x.2.2 189 ((w32 v7).toNat)) (x.2.2 189 ((w32 x.2.1).toNat)) x.2.2 (OK_bind hh)) (by decide) ⟨Nat.zero_le _, Nat.zero_le _⟩ rfl rfl (Nat.le_of_ble_eq_true rfl) (by decide) rfl (by decide) rfl (fun r F' h' hq1 => ?_)
      obtain ⟨rfl, r17, rfl, e9, hh⟩ := hq1
      subst h'
      refine A_go hM.1 rfl rfl ?_
      refine A_mask [true, true, true, true, true, true, false, true, true] (lv1 := [some (aR 150), none, some (aI v2), some (aI v3), some (aI v4), some (aI v5), none, some (aI v7), some (aI x.2.1)]) rfl ?_
      exact c_X12_men_j119 hM v2 v3 v4 v5 v7 x.2.1 x.1 r17 x.2.2 hin hout0 hh

set_option maxRecDepth 20000 in
set_option maxHeartbeats 4000000 in
theorem c_X12_men_l78 {k0 : K0} {G : Gx} {Qp : Option AV → Fx → Hp → Prop} (hM : MB (KM k0 0 0 Qp) G M_X12_men 3) (v2 : Int) (v3 : Int) (v4 : Int) (v5 : Int) (x : Int × Int × Hp)   {P : ((Int × Int × Hp) ⊕ (Int × Hp)) → Prop} (hin : ∀ y : Int × Int × Hp, P (.inl y) → ATk (KM k0 0 0 Qp) FN 0 0 M_X12_men 78 [some (aR 150), none, some (aI v2), some (aI v3), some (aI v4), some (aI v5), some (aI y.1), some (aI y.2.1), none] [] y.2.2) (hout0 : ∀ y : Int × Hp, P (.inr y) → ATk (KM k0 0 0 Qp) FN 0 0 M_X12_men 125 [some (aR 150), none, some (aI v2), some (aI v3), some (aI v4), some (aI v5), some (aI y.1), none, none] [] y.2) (hh : OK (X12_men_l78 v2 v3 v4 v5 x) P) : ATk (KM k0 0 0 Qp) FN 0 0 M_X12_men 78 [some (aR 150), none, some (aI v2), some (aI v3), some (aI v4), some (aI v5), some (aI x.1), some (aI x.2.1), none] [] x.2.2 := by
  unfold X12_men_l78 at hh
  refine A_blk hM.1 3 (lv1 := [some (aR 150), none, some (aI v2), some (aI v3), some (aI v4), some (aI v5), some (aI x.1), some (aI x.2.1), none]) (s1 := [aI (x.2.2 150 78), aI x.2.1]) (h1 := x.2.2) rfl ?_
  refine A_icmp hM.1 rfl rfl (fun hc => ?_) (fun hc => ?_)
  · replace hh := OK_t hh hc
    refine A_mask [true, true, true, true, true, true, true, false, true] (lv1 := [some (aR 150), none, some (aI v2), some (aI v3), some (aI v4), some (aI v5), some (aI x.1), none, none]) rfl ?_
    exact hout0 (x.1, x.2.2) hh
  · replace hh := OK_f hh hc
    refine A_blk hM.1 2 (lv1 := [some (aR 150), none, some (aI v2), some (aI v3), some (aI v4), some (aI v5), some (aI x.1), some (aI x.2.1), some (aI 0)]) (s1 := []) (h1 := x.2.2) rfl ?_
    refine iter_ok (s := (x.1, 0, x.2.2)) (Gp := fun z => ATk (KM k0 0 0 Qp) FN 0 0 M_X12_men 84 [some (aR 150), none, some (aI v2), some (aI v3), some (aI v4), some (aI v5), some (aI z.1), some (aI x.2.1), some (aI z.2.1)] [] z.2.2) (E := fun z => ATk (KM k0 0 0 Qp) FN 0 0 M_X12_men 123 [some (aR 150), none, some (aI v2), some (aI v3), some (aI v4), some (aI v5), some (aI z.1), some (aI x.2.1), none] [] z.2) (fun z P1 g1 g2 g3 => c_X12_men_l84 hM v2 v3 v4 v5 x.2.1 z g2 g3 g1) (OK_bind hh) (fun x18 hh => ?_)
    refine A_blk hM.1 1 (lv1 := [some (aR 150), none, some (aI v2), some (aI v3), some (aI v4), some (aI v5), some (aI x18.1), some (aI (x.2.1 + 1)), none]) (s1 := []) (h1 := x18.2) rfl ?_
    refine A_go hM.1 rfl rfl ?_
    exact hin (x18.1, x.2.1 + 1, x18.2) hh

set_option maxRecDepth 20000 in
set_option maxHeartbeats 4000000 in
theorem c_X12_men_j135 {k0 : K0} {G : Gx} {Qp : Option AV → Fx → Hp → Prop} (hM : MB (KM k0 0 0 Qp) G M_X12_men 3) (v2 : Int) (v3 : Int) (v4 : Int) (v5 : Int) (h : Hp)   {P : ((Int × Int × Int × Hp) ⊕ (Int × Int × Hp)) → Prop} (hin : ∀ y : Int × Int × Int × Hp, P (.inl y) → ATk (KM k0 0 0 Qp) FN 0 0 M_X12_men 68 [some (aR 150), none, some (aI v2), some (aI y.1), some (aI y.2.1), some (aI y.2.2.1), none, none, none] [] y.2.2.2) (hout0 : ∀ y : Int × Int × Hp, P (.inr y) → ATk (KM k0 0 0 Qp) FN 0 0 M_X12_men 137 [some (aR 150), none, some (aI v2), some (aI y.1), some (aI y.2.1), none, none, none, none] [] y.2.2) (hh : OK (X12_men_j135 v2 v3 v4 v5 h) P) : ATk (KM k0 0 0 Qp) FN 0 0 M_X12_men 135 [some (aR 150), none, some (aI v2), some (aI v3), some (aI v4), some (aI v5), none, none, none] [] h := by
  unfold X12_men_j135 at hh
  refine A_blk hM.1 1 (lv1 := [some (aR 150), none, some (aI v2), some (aI v3), some (aI v4), some (aI (v5 + 2)), none, none, none]) (s1 := []) (h1 := h) rfl ?_
  refine A_go hM.1 rfl rfl ?_
  exact hin (v3, v4, v5 + 2, h) hh

set_option maxRecDepth 20000 in
set_option maxHeartbeats 4000000 in
theorem c_X12_men_j131 {k0 : K0} {G : Gx} {Qp : Option AV → Fx → Hp → Prop} (hM : MB (KM k0 0 0 Qp) G M_X12_men 3) (v2 : Int) (v5 : Int) (v6 : Int) (h : Hp)   {P : ((Int × Int × Int × Hp) ⊕ (Int × Int × Hp)) → Prop} (hin : ∀ y : Int × Int × Int × Hp, P (.inl y) → ATk (KM k0 0 0 Qp) FN 0 0 M_X12_men 68 [some (aR 150), none, some (aI v2), some (aI y.1), some (aI y.2.1), some (aI y.2.2.1), none, none, none] [] y.2.2.2) (hout0 : ∀ y : Int × Int × Hp, P (.inr y) → ATk (KM k0 0 0 Qp) FN 0 0 M_X12_men 137 [some (aR 150), none, some (aI v2), some (aI y.1), some (aI y.2.1), none, none, none, none] [] y.2.2) (hh : OK (X12_men_j131 v2 v5 v6 h) P) : ATk (KM k0 0 0 Qp) FN 0 0 M_X12_men 131 [some (aR 150), none, some (aI v2), none, none, some (aI v5), some (aI v6), none, none] [] h := by
  unfold X12_men_j131 at hh
  refine A_blk hM.1 4 (lv1 := [some (aR 150), none, some (aI v2), some (aI v5), some (aI v6), some (aI v5), some (aI v6), none, none]) (s1 := []) (h1 := h) rfl ?_
  refine A_mask [true, true, true, true, true, true, false, true, true] (lv1 := [some (aR 150), none, some (aI v2), some (aI v5), some (aI v6), some (aI v5), none, none, none]) rfl ?_
  exact c_X12_men_j135 hM v2 v5 v6 v5 h hin hout0 hh

set_option maxRecDepth 20000 in
set_option maxHeartbeats 4000000 in
theorem c_X12_men_l68 {k0 : K0} {G : Gx} {Qp : Option AV → Fx → Hp → Prop} (hM : MB (KM k0 0 0 Qp) G M_X12_men 3) (v2 : Int) (x : Int × Int × Int × Hp)   {P : ((Int × Int × Int × Hp) ⊕ (Int × Int × Hp)) → Prop} (hin : ∀ y : Int × Int × Int × Hp, P (.inl y) → ATk (KM k0 0 0 Qp) FN 0 0 M_X12_men 68 [some (aR 150), none, some (aI v2), some (aI y.1), some (aI y.2.1), some (aI y.2.2.1), none, none, none] [] y.2.2.2) (hout0 : ∀ y : Int × Int × Hp, P (.inr y) → ATk (KM k0 0 0 Qp) FN 0 0 M_X12_men 137 [some (aR 150), none, some (aI v2), some (aI y.1), some (aI y.2.1), none, none, none, none] [] y.2.2) (hh : OK (X12_men_l68 v2 x) P) : ATk (KM k0 0 0 Qp) FN 0 0 M_X12_men 68 [some (aR 150), none, some (aI v2), some (aI x.1), some (aI x.2.1), some (aI x.2.2.1), none, none, none] [] x.2.2.2 := by
  unfold X12_men_l68 at hh
  refine A_blk hM.1 5 (lv1 := [some (aR 150), none, some (aI v2), some (aI x.1), some (aI x.2.1), some (aI x.2.2.1), none, none, none]) (s1 := [aI (shl32 1 (x.2.2.2 150 78)), aI x.2.2.1]) (h1 := x.2.2.2) rfl ?_
  refine A_icmp hM.1 rfl rfl (fun hc => ?_) (fun hc => ?_)
  · replace hh := OK_t hh hc
    refine A_mask [true, true, true, true, true, false, true, true, true] (lv1 := [some (aR 150), none, some (aI v2), some (aI x.1), some (aI x.2.1), none, none, none, none]) rfl ?_
    exact hout0 (x.1, x.2.1, x.2.2.2) hh
  · replace hh := OK_f hh hc
    refine A_blk hM.1 4 (lv1 := [some (aR 150), none, some (aI v2), some (aI x.1), some (aI x.2.1), some (aI x.2.2.1), some (aI 0), some (aI 0), none]) (s1 := []) (h1 := x.2.2.2) rfl ?_
    refine iter_ok (s := (0, 0, x.2.2.2)) (Gp := fun z => ATk (KM k0 0 0 Qp) FN 0 0 M_X12_men 78 [some (aR 150), none, some (aI v2), some (aI x.1), some (aI x.2.1), some (aI x.2.2.1), some (aI z.1), some (aI z.2.1), none] [] z.2.2) (E := fun z => ATk (KM k0 0 0 Qp) FN 0 0 M_X12_men 125 [some (aR 150), none, some (aI v2), some (aI x.1), some (aI x.2.1), some (aI x.2.2.1), some (aI z.1), none, none] [] z.2) (fun z P1 g1 g2 g3 => c_X12_men_l78 hM v2 x.1 x.2.1 x.2.2.1 z g2 g3 g1) (OK_bind hh) (fun x19 hh => ?_)
    refine A_blk hM.1 1 (lv1 := [some (aR 150), none, some (aI v2), some (aI x.1), some (aI x.2.1), some (aI x.2.2.1), some (aI x19.1), none, none]) (s1 := [aI x.2.2.1]) (h1 := x19.2) rfl ?_
    refine A_ifc hM.1 rfl rfl (fun hc => ?_) (fun hc => ?_)
    · replace hh := OK_t hh hc
      refine A_mask [true, true, true, false, false, true, true, true, true] (lv1 := [some (aR 150), none, some (aI v2), none, none, some (aI x.2.2.1), some (aI x19.1), none, none]) rfl ?_
      exact c_X12_men_j131 hM v2 x.2.2.1 x19.1 x19.2 hin hout0 hh
    · replace hh := OK_f hh hc
      refine A_blk hM.1 2 (lv1 := [some (aR 150), none, some (aI v2), some (aI x.1), some (aI x.2.1), some (aI x.2.2.1), some (aI x19.1), none, none]) (s1 := [aI x.2.1, aI x19.1]) (h1 := x19.2) rfl ?_
      refine A_icmp hM.1 rfl rfl (fun hc => ?_) (fun hc => ?_)
      · replace hh := OK_t hh hc
        refine A_mask [true, true, true, false, false, true, true, true, true] (lv1 := [some (aR 150), none, some (aI v2), none, none, some (aI x.2.2.1), some (aI x19.1), none, none]) rfl ?_
        exact c_X12_men_j131 hM v2 x.2.2.1 x19.1 x19.2 hin hout0 hh
      · replace hh := OK_f hh hc
        refine A_go hM.1 rfl rfl ?_
        refine A_mask [true, true, true, true, true, true, false, true, true] (lv1 := [some (aR 150), none, some (aI v2), some (aI x.1), some (aI x.2.1), some (aI x.2.2.1), none, none, none]) rfl ?_
        exact c_X12_men_j135 hM v2 x.1 x.2.1 x.2.2.1 x19.2 hin hout0 hh

set_option maxRecDepth 20000 in
set_option maxHeartbeats 4000000 in
theorem c_X12_men_j165 {k0 : K0} {G : Gx} {Qp : Option AV → Fx → Hp → Prop} (hM : MB (KM k0 0 0 Qp) G M_X12_men 3) (v3 : Int) (v7 : Int) (s0 : Int) (s1 : Int) (h : Hp)   {P : ((Int × Int × Hp) ⊕ (Int × Hp)) → Prop} (hin : ∀ y : Int × Int × Hp, P (.inl y) → ATk (KM k0 0 0 Qp) FN 0 0 M_X12_men 147 [some (aR 150), none, none, some (aI v3), none, some (aL y.1), none, some (aI y.2.1), none] [] y.2.2) (hout0 : ∀ y : Int × Hp, P (.inr y) → ATk (KM k0 0 0 Qp) FN 0 0 M_X12_men 169 [none, none, none, none, none, some (aL y.1), none, none, none] [] y.2) (hh : OK (X12_men_j165 v3 v7 s0 s1 h) P) : ATk (KM k0 0 0 Qp) FN 0 0 M_X12_men 165 [some (aR 150), none, none, some (aI v3), none, none, none, some (aI v7), none] [aL s1, aL s0] h := by
  unfold X12_men_j165 at hh
  refine A_blk hM.1 3 (lv1 := [some (aR 150), none, none, some (aI v3), none, some (aL (or64 s0 s1)), none, some (aI (v7 + 1)), none]) (s1 := []) (h1 := h) rfl ?_
  refine A_go hM.1 rfl rfl ?_
  exact hin (or64 s0 s1, v7 + 1, h) hh

set_option maxRecDepth 20000 in
set_option maxHeartbeats 4000000 in
theorem c_X12_men_l147 {k0 : K0} {G : Gx} {Qp : Option AV → Fx → Hp → Prop} (hM : MB (KM k0 0 0 Qp) G M_X12_men 3) (v3 : Int) (x : Int × Int × Hp)   {P : ((Int × Int × Hp) ⊕ (Int × Hp)) → Prop} (hin : ∀ y : Int × Int × Hp, P (.inl y) → ATk (KM k0 0 0 Qp) FN 0 0 M_X12_men 147 [some (aR 150), none, none, some (aI v3), none, some (aL y.1), none, some (aI y.2.1), none] [] y.2.2) (hout0 : ∀ y : Int × Hp, P (.inr y) → ATk (KM k0 0 0 Qp) FN 0 0 M_X12_men 169 [none, none, none, none, none, some (aL y.1), none, none, none] [] y.2) (hh : OK (X12_men_l147 v3 x) P) : ATk (KM k0 0 0 Qp) FN 0 0 M_X12_men 147 [some (aR 150), none, none, some (aI v3), none, some (aL x.1), none, some (aI x.2.1), none] [] x.2.2 := by
  unfold X12_men_l147 at hh
  refine A_blk hM.1 3 (lv1 := [some (aR 150), none, none, some (aI v3), none, some (aL x.1), none, some (aI x.2.1), none]) (s1 := [aI (x.2.2 150 78), aI x.2.1]) (h1 := x.2.2) rfl ?_
  refine A_icmp hM.1 rfl rfl (fun hc => ?_) (fun hc => ?_)
  · replace hh := OK_t hh hc
    refine A_mask [false, true, true, false, true, true, true, false, true] (lv1 := [none, none, none, none, none, some (aL x.1), none, none, none]) rfl ?_
    exact hout0 (x.1, x.2.2) hh
  · replace hh := OK_f hh hc
    refine A_blk hM.1 4 (lv1 := [some (aR 150), none, none, some (aI v3), none, some (aL x.1), none, some (aI x.2.1), none]) (s1 := [aI x.2.1, aL (w32 v3), aL x.1]) (h1 := x.2.2) rfl ?_
    refine A_callS hM rfl rfl (mem_GW 2195 (by decide +kernel) rfl) mi_X12_has ms_X12_has (As := [aL (w32 v3), aI x.2.1]) (rest := [aL x.1]) (ct_X12_has (w32 v3) x.2.1 x.2.2 (OK_bind hh)) (by decide) ⟨Nat.zero_le _, Nat.zero_le _⟩ rfl rfl (Nat.le_of_ble_eq_true rfl) (fun r F' h' hq1 => ?_)
    obtain ⟨rfl, r21, rfl, e9, hh⟩ := hq1
    subst h'
    refine A_ifc hM.1 rfl rfl (fun hc => ?_) (fun hc => ?_)
    · replace hh := OK_t hh hc
      refine A_blk hM.1 1 (lv1 := [some (aR 150), none, none, some (aI v3), none, some (aL x.1), none, some (aI x.2.1), none]) (s1 := [aL 0, aL x.1]) (h1 := x.2.2) rfl ?_
      refine A_mask [true, true, true, true, true, false, true, true, true] (lv1 := [some (aR 150), none, none, some (aI v3), none, none, none, some (aI x.2.1), none]) rfl ?_
      exact c_X12_men_j165 hM v3 x.2.1 x.1 0 x.2.2 hin hout0 hh
    · replace hh := OK_f hh hc
      refine A_blk hM.1 4 (lv1 := [some (aR 150), none, none, some (aI v3), none, some (aL x.1), none, some (aI x.2.1), none]) (s1 := [aI x.2.1, aR 189, aL 1, aL x.1]) (h1 := x.2.2) rfl ?_
      obtain ⟨g22, hh⟩ := OK_g hh
      refine A_ald hM.1 rfl (Or.inl ⟨rfl, rfl⟩) rfl (by decide) rfl g22 ?_
      refine A_blk hM.1 1 (lv1 := [some (aR 150), none, none, some (aI v3), none, some (aL x.1), none, some (aI x.2.1), none]) (s1 := [aL (shl64 1 (x.2.2 189 ((w32 x.2.1).toNat))), aL x.1]) (h1 := x.2.2) rfl ?_
      refine A_go hM.1 rfl rfl ?_
      refine A_mask [true, true, true, true, true, false, true, true, true] (lv1 := [some (aR 150), none, none, some (aI v3), none, none, none, some (aI x.2.1), none]) rfl ?_
      exact c_X12_men_j165 hM v3 x.2.1 x.1 (shl64 1 (x.2.2 189 ((w32 x.2.1).toNat))) x.2.2 hin hout0 hh

set_option maxRecDepth 20000 in
set_option maxHeartbeats 4000000 in
theorem c_X12_men {k0 : K0} {G : Gx} {Qp : Option AV → Fx → Hp → Prop} (hM : MB (KM k0 0 0 Qp) G M_X12_men 3) (v1 : Int) (v2 : Int) (h : Hp)   {P : (Int × Hp) → Prop} (hq : ∀ z : Int × Hp, P z → Qp (some (aL z.1)) FN z.2) (hh : OK (X12_men v1 v2 h) P) : ATk (KM k0 0 0 Qp) FN 0 0 M_X12_men 0 [some (aR 150), some (aI v1), some (aI v2), none, none, none, none, none, none] [] h := by
  unfold X12_men at hh
  refine A_blk hM.1 2 (lv1 := [some (aR 150), some (aI v1), some (aI v2), none, none, none, none, none, none]) (s1 := [aI v1, aR 150]) (h1 := h) rfl ?_
  refine A_callV hM rfl rfl (mem_GW 1887 (by decide +kernel) rfl) mi_X12_isAuthor (As := [aI v1]) (rest := []) (ct_X12_isAuthor v1 h (OK_bind hh)) (by decide) ⟨Nat.zero_le _, Nat.zero_le _⟩ rfl rfl (Nat.le_of_ble_eq_true rfl) (by decide) rfl (by decide) rfl (fun r F' h' hq1 => ?_)
  obtain ⟨rfl, r1, rfl, e9, hh⟩ := hq1
  subst h'
  refine A_ifc hM.1 rfl rfl (fun hc => ?_) (fun hc => ?_)
  · replace hh := OK_t hh hc
    refine A_blk hM.1 1 (lv1 := [some (aR 150), some (aI v1), some (aI v2), none, none, none, none, none, none]) (s1 := [aL (-1000000)]) (h1 := h) rfl ?_
    exact A_retl hM.1 rfl rfl rfl (hq ((-1000000), h) hh)
  · replace hh := OK_f hh hc
    refine A_blk hM.1 4 (lv1 := [some (aR 150), some (aI v1), some (aI v2), none, none, none, none, none, none]) (s1 := [aL 1, aL 0, aL (w32 v2)]) (h1 := h) rfl ?_
    refine A_callS hM rfl rfl (mem_GW 1879 (by decide +kernel) rfl) mi_X12_lies ms_X12_lies (As := [aL (w32 v2), aL 0, aL 1]) (rest := []) (ct_X12_lies (w32 v2) 0 1 h (OK_bind hh)) (by decide) ⟨Nat.zero_le _, Nat.zero_le _⟩ rfl rfl (Nat.le_of_ble_eq_true rfl) (fun r F' h' hq1 => ?_)
    obtain ⟨rfl, r2, rfl, e9, hh⟩ := hq1
    subst h'
    refine A_ifc hM.1 rfl rfl (fun hc => ?_) (fun hc => ?_)
    · replace hh := OK_t hh hc
      refine A_blk hM.1 5 (lv1 := [some (aR 150), some (aI v1), some (aI v2), some (aI 0), none, none, none, none, none]) (s1 := []) (h1 := setH h 150 78 0) rfl ?_
      refine iter_ok (s := (0, setH h 150 78 0)) (Gp := fun z => ATk (KM k0 0 0 Qp) FN 0 0 M_X12_men 17 [some (aR 150), some (aI v1), some (aI v2), some (aI z.1), none, none, none, none, none] [] z.2) (E := fun z => (∀ y, z = (.inl y) → ATk (KM k0 0 0 Qp) FN 0 0 M_X12_men 41 [none, none, none, none, none, none, none, none, none] [] y) ∧ (∀ y, z = (.inr y) → ATk (KM k0 0 0 Qp) FN 0 0 M_X12_men 57 [some (aR 150), none, some (aI v2), none, none, none, none, none, none] [] y)) (fun z P1 g1 g2 g3 => c_X12_men_l17 hM v1 v2 z g2 (fun y hy => (g3 (.inl y) hy).1 y rfl) (fun y hy => (g3 (.inr y) hy).2 y rfl) g1) (OK_bind hh) (fun x7 hh => ?_)
      refine ⟨fun y e => ?_, fun y e => ?_⟩
      · obtain ⟨y8, rfl⟩ : ∃ z, z = y := ⟨_, rfl⟩
        subst e
        refine A_blk hM.1 1 (lv1 := [none, none, none, none, none, none, none, none, none]) (s1 := [aL (-1000000)]) (h1 := y8) rfl ?_
        exact A_retl hM.1 rfl rfl rfl (hq ((-1000000), y8) hh)
      · obtain ⟨y9, rfl⟩ : ∃ z, z = y := ⟨_, rfl⟩
        subst e
        refine A_blk hM.1 2 (lv1 := [some (aR 150), none, some (aI v2), none, none, none, none, none, none]) (s1 := [aI (y9 150 78)]) (h1 := y9) rfl ?_
        refine A_ifc hM.1 rfl rfl (fun hc => ?_) (fun hc => ?_)
        · replace hh := OK_t hh hc
          refine A_blk hM.1 6 (lv1 := [some (aR 150), none, some (aI v2), some (aI 0), some (aI 0), some (aI 0), none, none, none]) (s1 := []) (h1 := y9) rfl ?_
          refine iter_ok (s := (0, 0, 0, y9)) (Gp := fun z => ATk (KM k0 0 0 Qp) FN 0 0 M_X12_men 68 [some (aR 150), none, some (aI v2), some (aI z.1), some (aI z.2.1), some (aI z.2.2.1), none, none, none] [] z.2.2.2) (E := fun z => ATk (KM k0 0 0 Qp) FN 0 0 M_X12_men 137 [some (aR 150), none, some (aI v2), some (aI z.1), some (aI z.2.1), none, none, none, none] [] z.2.2) (fun z P1 g1 g2 g3 => c_X12_men_l68 hM v2 z g2 g3 g1) (OK_bind hh) (fun x20 hh => ?_)
          refine A_blk hM.1 2 (lv1 := [some (aR 150), none, some (aI v2), some (aI x20.1), some (aI x20.2.1), none, none, none, none]) (s1 := [aI 1, aI v2]) (h1 := x20.2.2) rfl ?_
          refine A_icmp hM.1 rfl rfl (fun hc => ?_) (fun hc => ?_)
          · replace hh := OK_t hh hc
            refine A_blk hM.1 4 (lv1 := [some (aR 150), none, some (aI v2), some (aI x20.1), some (aI x20.2.1), some (aL 0), none, some (aI 0), none]) (s1 := []) (h1 := x20.2.2) rfl ?_
            refine A_mask [true, true, false, true, false, true, true, true, true] (lv1 := [some (aR 150), none, none, some (aI x20.1), none, some (aL 0), none, some (aI 0), none]) rfl ?_
            refine iter_ok (s := (0, 0, x20.2.2)) (Gp := fun z => ATk (KM k0 0 0 Qp) FN 0 0 M_X12_men 147 [some (aR 150), none, none, some (aI x20.1), none, some (aL z.1), none, some (aI z.2.1), none] [] z.2.2) (E := fun z => ATk (KM k0 0 0 Qp) FN 0 0 M_X12_men 169 [none, none, none, none, none, some (aL z.1), none, none, none] [] z.2) (fun z P1 g1 g2 g3 => c_X12_men_l147 hM x20.1 z g2 g3 g1) (OK_bind hh) (fun x23 hh => ?_)
            refine A_blk hM.1 1 (lv1 := [none, none, none, none, none, some (aL x23.1), none, none, none]) (s1 := [aL x23.1]) (h1 := x23.2) rfl ?_
            exact A_retl hM.1 rfl rfl rfl (hq (x23.1, x23.2) hh)
          · replace hh := OK_f hh hc
            refine A_blk hM.1 2 (lv1 := [some (aR 150), none, some (aI v2), some (aI x20.1), some (aI x20.2.1), none, none, none, none]) (s1 := [aL (w32 x20.2.1)]) (h1 := x20.2.2) rfl ?_
            exact A_retl hM.1 rfl rfl rfl (hq (w32 x20.2.1, x20.2.2) hh)
        · replace hh := OK_f hh hc
          refine A_blk hM.1 1 (lv1 := [some (aR 150), none, some (aI v2), none, none, none, none, none, none]) (s1 := [aL (-1000000)]) (h1 := y9) rfl ?_
          exact A_retl hM.1 rfl rfl rfl (hq ((-1000000), y9) hh)
    · replace hh := OK_f hh hc
      refine A_blk hM.1 1 (lv1 := [some (aR 150), some (aI v1), some (aI v2), none, none, none, none, none, none]) (s1 := [aL (-1000000)]) (h1 := h) rfl ?_
      exact A_retl hM.1 rfl rfl rfl (hq ((-1000000), h) hh)

set_option maxRecDepth 20000 in
set_option maxHeartbeats 4000000 in
theorem ct_X12_men {G : Gx} (v1 : Int) (v2 : Int) (h : Hp)   {P : (Int × Hp) → Prop} (hh : OK (X12_men v1 v2 h) P) : CT G yX12_men M_X12_men 3 0 0 FN h [aR 150, aI v1, aI v2] (fun r F' h' => F' = FN ∧ ∃ z, r = some (aL z.1) ∧ h' = z.2 ∧ P z) :=
  CT.of (by decide +kernel) rfl (Nat.le_of_ble_eq_true rfl) k_X12_men fun k0 _ _ hM => c_X12_men hM v1 v2 h (fun z hz => ⟨rfl, z, rfl, rfl, hz⟩) hh

theorem mi_X12_isYear : MIs yX12_isYear M_X12_isYear 1 := ⟨(mem_GW 2331 (by decide +kernel) rfl), (mem_GW 135 (by decide +kernel) rfl), by decide +kernel, by decide +kernel, by decide +kernel, by decide⟩
theorem ms_X12_isYear : .static yX12_isYear ∈ GW := (mem_GW 2330 (by decide +kernel) rfl)
set_option maxRecDepth 20000 in
set_option maxHeartbeats 4000000 in
theorem c_X12_isYear {k0 : K0} {G : Gx} {Qp : Option AV → Fx → Hp → Prop} (hM : MB (KM k0 0 0 Qp) G M_X12_isYear 2) (v0 : Int) (h : Hp)  {P : Int → Prop} (hq : ∀ z : Int, P z → Qp (some (aI z)) FN h) (hh : OK (X12_isYear v0) P) : ATk (KM k0 0 0 Qp) FN 0 0 M_X12_isYear 0 [some (aI v0)] [] h := by
  unfold X12_isYear at hh
  refine A_blk hM.1 4 (lv1 := [some (aI v0)]) (s1 := [aL 2000, aL 0, aL (w32 v0)]) (h1 := h) rfl ?_
  refine A_callS hM rfl rfl (mem_GW 1879 (by decide +kernel) rfl) mi_X12_lies ms_X12_lies (As := [aL (w32 v0), aL 0, aL 2000]) (rest := []) (ct_X12_lies (w32 v0) 0 2000 h (OK_bind hh)) (by decide) ⟨Nat.zero_le _, Nat.zero_le _⟩ rfl rfl (Nat.le_of_ble_eq_true rfl) (fun r F' h' hq1 => ?_)
  obtain ⟨rfl, r1, rfl, e9, hh⟩ := hq1
  subst h'
  obtain ⟨hz2, hh⟩ := OK_g hh
  exact A_retz hM.1 rfl rfl rfl hz2 (hq r1 hh)

set_option maxRecDepth 20000 in
set_option maxHeartbeats 4000000 in
theorem ct_X12_isYear {G : Gx} (v0 : Int) (h : Hp)  {P : Int → Prop} (hh : OK (X12_isYear v0) P) : CT G yX12_isYear M_X12_isYear 2 0 0 FN h [aI v0] (fun r F' h' => F' = FN ∧ ∃ z, r = some (aI z) ∧ h' = h ∧ P z) :=
  CT.of (by decide +kernel) rfl (Nat.le_of_ble_eq_true rfl) k_X12_isYear fun k0 _ _ hM => c_X12_isYear hM v0 h (fun z hz => ⟨rfl, z, rfl, rfl, hz⟩) hh

theorem mi_X12_gives : MIv yX12_gives M_X12_gives 3 := ⟨⟨(mem_GW 2328 (by decide +kernel) rfl), (mem_GW 135 (by decide +kernel) rfl), by decide +kernel, by decide +kernel, by decide +kernel, by decide⟩, (mem_GW 2326 (by decide +kernel) rfl), (mem_GW 2327 (by decide +kernel) rfl)⟩
set_option maxRecDepth 20000 in
set_option maxHeartbeats 4000000 in
theorem c_X12_gives_j32 {k0 : K0} {G : Gx} {Qp : Option AV → Fx → Hp → Prop} (hM : MB (KM k0 0 0 Qp) G M_X12_gives 3) (v1 : Int) (v2 : Int) (v3 : Int) (h : Hp)   {P : (Int × Hp) → Prop} (hq : ∀ z : Int × Hp, P z → Qp (some (aI z.1)) FN z.2) (hh : OK (X12_gives_j32 v1 v2 v3 h) P) : ATk (KM k0 0 0 Qp) FN 0 0 M_X12_gives 32 [some (aR 150), some (aI v1), some (aI v2), some (aI v3)] [] h := by
  unfold X12_gives_j32 at hh
  refine A_blk hM.1 5 (lv1 := [some (aR 150), some (aI v1), some (aI v2), some (aI v3)]) (s1 := [aI v1, aI (h 150 88), aR 196]) (h1 := h) rfl ?_
  obtain ⟨g3, hh⟩ := OK_g hh
  refine A_ast hM.1 rfl (Or.inl ⟨rfl, rfl, rfl⟩) rfl rfl rfl g3 ?_
  refine A_blk hM.1 5 (lv1 := [some (aR 150), some (aI v1), some (aI v2), some (aI v3)]) (s1 := [aI v2, aI (h 150 88), aR 197]) (h1 := setH h 196 ((w32 (h 150 88)).toNat) v1) rfl ?_
  obtain ⟨g4, hh⟩ := OK_g hh
  refine A_ast hM.1 rfl (Or.inl ⟨rfl, rfl, rfl⟩) rfl rfl rfl g4 ?_
  refine A_blk hM.1 5 (lv1 := [some (aR 150), some (aI v1), some (aI v2), some (aI v3)]) (s1 := [aI v3, aI (h 150 88), aR 198]) (h1 := setH (setH h 196 ((w32 (h 150 88)).toNat) v1) 197 ((w32 (h 150 88)).toNat) v2) rfl ?_
  obtain ⟨g5, hh⟩ := OK_g hh
  refine A_ast hM.1 rfl (Or.inl ⟨rfl, rfl, rfl⟩) rfl rfl rfl g5 ?_
  refine A_blk hM.1 7 (lv1 := [some (aR 150), some (aI v1), some (aI v2), some (aI v3)]) (s1 := [aI 1]) (h1 := setH (setH (setH (setH h 196 ((w32 (h 150 88)).toNat) v1) 197 ((w32 (h 150 88)).toNat) v2) 198 ((w32 (h 150 88)).toNat) v3) 150 88 ((h 150 88) + 1)) rfl ?_
  exact A_retz hM.1 rfl rfl rfl (by decide) (hq (1, setH (setH (setH (setH h 196 ((w32 (h 150 88)).toNat) v1) 197 ((w32 (h 150 88)).toNat) v2) 198 ((w32 (h 150 88)).toNat) v3) 150 88 ((h 150 88) + 1)) hh)

set_option maxRecDepth 20000 in
set_option maxHeartbeats 4000000 in
theorem c_X12_gives_j11 {k0 : K0} {G : Gx} {Qp : Option AV → Fx → Hp → Prop} (hM : MB (KM k0 0 0 Qp) G M_X12_gives 3) (v1 : Int) (v2 : Int) (v3 : Int) (h : Hp)   {P : (Int × Hp) → Prop} (hq : ∀ z : Int × Hp, P z → Qp (some (aI z.1)) FN z.2) (hh : OK (X12_gives_j11 v1 v2 v3 h) P) : ATk (KM k0 0 0 Qp) FN 0 0 M_X12_gives 11 [some (aR 150), some (aI v1), some (aI v2), some (aI v3)] [] h := by
  unfold X12_gives_j11 at hh
  refine A_blk hM.1 1 (lv1 := [some (aR 150), some (aI v1), some (aI v2), some (aI v3)]) (s1 := [aI v3]) (h1 := h) rfl ?_
  refine A_callS hM rfl rfl (mem_GW 2329 (by decide +kernel) rfl) mi_X12_isYear ms_X12_isYear (As := [aI v3]) (rest := []) (ct_X12_isYear v3 h (OK_bind hh)) (by decide) ⟨Nat.zero_le _, Nat.zero_le _⟩ rfl rfl (Nat.le_of_ble_eq_true rfl) (fun r F' h' hq1 => ?_)
  obtain ⟨rfl, r2, rfl, e9, hh⟩ := hq1
  subst h'
  refine A_ifc hM.1 rfl rfl (fun hc => ?_) (fun hc => ?_)
  · replace hh := OK_t hh hc
    refine A_blk hM.1 1 (lv1 := [some (aR 150), some (aI v1), some (aI v2), some (aI v3)]) (s1 := [aI 0]) (h1 := h) rfl ?_
    exact A_retz hM.1 rfl rfl rfl (by decide) (hq (0, h) hh)
  · replace hh := OK_f hh hc
    refine A_blk hM.1 3 (lv1 := [some (aR 150), some (aI v1), some (aI v2), some (aI v3)]) (s1 := [aI 60, aI (h 150 88)]) (h1 := h) rfl ?_
    refine A_icmp hM.1 rfl rfl (fun hc => ?_) (fun hc => ?_)
    · replace hh := OK_t hh hc
      refine A_blk hM.1 1 (lv1 := [some (aR 150), some (aI v1), some (aI v2), some (aI v3)]) (s1 := [aI 0]) (h1 := h) rfl ?_
      exact A_retz hM.1 rfl rfl rfl (by decide) (hq (0, h) hh)
    · replace hh := OK_f hh hc
      refine A_blk hM.1 2 (lv1 := [some (aR 150), some (aI v1), some (aI v2), some (aI v3)]) (s1 := [aI (h 150 88)]) (h1 := h) rfl ?_
      refine A_ifc hM.1 rfl rfl (fun hc => ?_) (fun hc => ?_)
      · replace hh := OK_t hh hc
        exact c_X12_gives_j32 hM v1 v2 v3 h hq hh
      · replace hh := OK_f hh hc
        refine A_blk hM.1 7 (lv1 := [some (aR 150), some (aI v1), some (aI v2), some (aI v3)]) (s1 := [aI ((h 150 88) - 1), aR 198, aI v3]) (h1 := h) rfl ?_
        obtain ⟨g6, hh⟩ := OK_g hh
        refine A_ald hM.1 rfl (Or.inl ⟨rfl, rfl⟩) rfl (by decide) rfl g6 ?_
        refine A_icmp hM.1 rfl rfl (fun hc => ?_) (fun hc => ?_)
        · replace hh := OK_t hh hc
          exact c_X12_gives_j32 hM v1 v2 v3 h hq hh
        · replace hh := OK_f hh hc
          refine A_blk hM.1 1 (lv1 := [some (aR 150), some (aI v1), some (aI v2), some (aI v3)]) (s1 := [aI 0]) (h1 := h) rfl ?_
          exact A_retz hM.1 rfl rfl rfl (by decide) (hq (0, h) hh)

set_option maxRecDepth 20000 in
set_option maxHeartbeats 4000000 in
theorem c_X12_gives {k0 : K0} {G : Gx} {Qp : Option AV → Fx → Hp → Prop} (hM : MB (KM k0 0 0 Qp) G M_X12_gives 3) (v1 : Int) (v2 : Int) (v3 : Int) (h : Hp)   {P : (Int × Hp) → Prop} (hq : ∀ z : Int × Hp, P z → Qp (some (aI z.1)) FN z.2) (hh : OK (X12_gives v1 v2 v3 h) P) : ATk (KM k0 0 0 Qp) FN 0 0 M_X12_gives 0 [some (aR 150), some (aI v1), some (aI v2), some (aI v3)] [] h := by
  unfold X12_gives at hh
  refine A_blk hM.1 2 (lv1 := [some (aR 150), some (aI v1), some (aI v2), some (aI v3)]) (s1 := [aI v1, aR 150]) (h1 := h) rfl ?_
  refine A_callV hM rfl rfl (mem_GW 2086 (by decide +kernel) rfl) mi_X12_isBit (As := [aI v1]) (rest := []) (ct_X12_isBit v1 h (OK_bind hh)) (by decide) ⟨Nat.zero_le _, Nat.zero_le _⟩ rfl rfl (Nat.le_of_ble_eq_true rfl) (by decide) rfl (by decide) rfl (fun r F' h' hq1 => ?_)
  obtain ⟨rfl, r1, rfl, e9, hh⟩ := hq1
  subst h'
  refine A_ifc hM.1 rfl rfl (fun hc => ?_) (fun hc => ?_)
  · replace hh := OK_t hh hc
    refine A_blk hM.1 1 (lv1 := [some (aR 150), some (aI v1), some (aI v2), some (aI v3)]) (s1 := [aI 0]) (h1 := h) rfl ?_
    exact A_retz hM.1 rfl rfl rfl (by decide) (hq (0, h) hh)
  · replace hh := OK_f hh hc
    refine A_blk hM.1 2 (lv1 := [some (aR 150), some (aI v1), some (aI v2), some (aI v3)]) (s1 := [aI (-1), aI v2]) (h1 := h) rfl ?_
    refine A_icmp hM.1 rfl rfl (fun hc => ?_) (fun hc => ?_)
    · replace hh := OK_t hh hc
      exact c_X12_gives_j11 hM v1 v2 v3 h hq hh
    · replace hh := OK_f hh hc
      refine A_blk hM.1 2 (lv1 := [some (aR 150), some (aI v1), some (aI v2), some (aI v3)]) (s1 := [aI v2, aR 150]) (h1 := h) rfl ?_
      refine A_callV hM rfl rfl (mem_GW 1913 (by decide +kernel) rfl) mi_X12_isWork (As := [aI v2]) (rest := []) (ct_X12_isWork v2 h (OK_bind hh)) (by decide) ⟨Nat.zero_le _, Nat.zero_le _⟩ rfl rfl (Nat.le_of_ble_eq_true rfl) (by decide) rfl (by decide) rfl (fun r F' h' hq1 => ?_)
      obtain ⟨rfl, r7, rfl, e9, hh⟩ := hq1
      subst h'
      refine A_ifc hM.1 rfl rfl (fun hc => ?_) (fun hc => ?_)
      · replace hh := OK_t hh hc
        refine A_blk hM.1 1 (lv1 := [some (aR 150), some (aI v1), some (aI v2), some (aI v3)]) (s1 := [aI 0]) (h1 := h) rfl ?_
        exact A_retz hM.1 rfl rfl rfl (by decide) (hq (0, h) hh)
      · replace hh := OK_f hh hc
        exact c_X12_gives_j11 hM v1 v2 v3 h hq hh

set_option maxRecDepth 20000 in
set_option maxHeartbeats 4000000 in
theorem ct_X12_gives {G : Gx} (v1 : Int) (v2 : Int) (v3 : Int) (h : Hp)   {P : (Int × Hp) → Prop} (hh : OK (X12_gives v1 v2 v3 h) P) : CT G yX12_gives M_X12_gives 3 0 0 FN h [aR 150, aI v1, aI v2, aI v3] (fun r F' h' => F' = FN ∧ ∃ z, r = some (aI z.1) ∧ h' = z.2 ∧ P z) :=
  CT.of (by decide +kernel) rfl (Nat.le_of_ble_eq_true rfl) k_X12_gives fun k0 _ _ hM => c_X12_gives hM v1 v2 v3 h (fun z hz => ⟨rfl, z, rfl, rfl, hz⟩) hh

theorem mi_X12_givenOf : MIv yX12_givenOf M_X12_givenOf 2 := ⟨⟨(mem_GW 2340 (by decide +kernel) rfl), (mem_GW 135 (by decide +kernel) rfl), by decide +kernel, by decide +kernel, by decide +kernel, by decide⟩, (mem_GW 2339 (by decide +kernel) rfl), (mem_GW 120 (by decide +kernel) rfl)⟩
set_option maxRecDepth 20000 in
set_option maxHeartbeats 4000000 in
theorem c_X12_givenOf_j28 {k0 : K0} {G : Gx} {Qp : Option AV → Fx → Hp → Prop} (hM : MB (KM k0 0 0 Qp) G M_X12_givenOf 1) (v1 : Int) (v2 : Int) (v3 : Int) (v4 : Int) (h : Hp)   {P : ((Int × Int) ⊕ (Int)) → Prop} (hin : ∀ y : Int × Int, P (.inl y) → ATk (KM k0 0 0 Qp) FN 0 0 M_X12_givenOf 7 [some (aR 150), some (aI v1), some (aI v2), some (aI y.1), some (aI y.2)] [] h) (hout0 : ∀ y : Int, P (.inr y) → ATk (KM k0 0 0 Qp) FN 0 0 M_X12_givenOf 30 [none, none, none, some (aI y), none] [] h) (hh : OK (X12_givenOf_j28 v1 v2 v3 v4 h) P) : ATk (KM k0 0 0 Qp) FN 0 0 M_X12_givenOf 28 [some (aR 150), some (aI v1), some (aI v2), some (aI v3), some (aI v4)] [] h := by
  unfold X12_givenOf_j28 at hh
  refine A_blk hM.1 1 (lv1 := [some (aR 150), some (aI v1), some (aI v2), some (aI v3), some (aI (v4 + 1))]) (s1 := []) (h1 := h) rfl ?_
  refine A_go hM.1 rfl rfl ?_
  exact hin (v3, v4 + 1) hh

set_option maxRecDepth 20000 in
set_option maxHeartbeats 4000000 in
theorem c_X12_givenOf_l7 {k0 : K0} {G : Gx} {Qp : Option AV → Fx → Hp → Prop} (hM : MB (KM k0 0 0 Qp) G M_X12_givenOf 1) (v1 : Int) (v2 : Int) (h : Hp) (x : Int × Int)   {P : ((Int × Int) ⊕ (Int)) → Prop} (hin : ∀ y : Int × Int, P (.inl y) → ATk (KM k0 0 0 Qp) FN 0 0 M_X12_givenOf 7 [some (aR 150), some (aI v1), some (aI v2), some (aI y.1), some (aI y.2)] [] h) (hout0 : ∀ y : Int, P (.inr y) → ATk (KM k0 0 0 Qp) FN 0 0 M_X12_givenOf 30 [none, none, none, some (aI y), none] [] h) (hh : OK (X12_givenOf_l7 v1 v2 h x) P) : ATk (KM k0 0 0 Qp) FN 0 0 M_X12_givenOf 7 [some (aR 150), some (aI v1), some (aI v2), some (aI x.1), some (aI x.2)] [] h := by
  unfold X12_givenOf_l7 at hh
  refine A_blk hM.1 3 (lv1 := [some (aR 150), some (aI v1), some (aI v2), some (aI x.1), some (aI x.2)]) (s1 := [aI (h 150 88), aI x.2]) (h1 := h) rfl ?_
  refine A_icmp hM.1 rfl rfl (fun hc => ?_) (fun hc => ?_)
  · replace hh := OK_t hh hc
    refine A_mask [false, false, false, true, false] (lv1 := [none, none, none, some (aI x.1), none]) rfl ?_
    exact hout0 x.1 hh
  · replace hh := OK_f hh hc
    refine A_blk hM.1 3 (lv1 := [some (aR 150), some (aI v1), some (aI v2), some (aI x.1), some (aI x.2)]) (s1 := [aI x.2, aR 196]) (h1 := h) rfl ?_
    obtain ⟨g2, hh⟩ := OK_g hh
    refine A_ald hM.1 rfl (Or.inl ⟨rfl, rfl⟩) rfl (by decide) rfl g2 ?_
    refine A_blk hM.1 1 (lv1 := [some (aR 150), some (aI v1), some (aI v2), some (aI x.1), some (aI x.2)]) (s1 := [aI v1, aI (h 196 ((w32 x.2).toNat))]) (h1 := h) rfl ?_
    refine A_icmp hM.1 rfl rfl (fun hc => ?_) (fun hc => ?_)
    · replace hh := OK_t hh hc
      exact c_X12_givenOf_j28 hM v1 v2 x.1 x.2 h hin hout0 hh
    · replace hh := OK_f hh hc
      refine A_blk hM.1 3 (lv1 := [some (aR 150), some (aI v1), some (aI v2), some (aI x.1), some (aI x.2)]) (s1 := [aI x.2, aR 198]) (h1 := h) rfl ?_
      obtain ⟨g3, hh⟩ := OK_g hh
      refine A_ald hM.1 rfl (Or.inl ⟨rfl, rfl⟩) rfl (by decide) rfl g3 ?_
      refine A_blk hM.1 1 (lv1 := [some (aR 150), some (aI v1), some (aI v2), some (aI x.1), some (aI x.2)]) (s1 := [aI v2, aI (h 198 ((w32 x.2).toNat))]) (h1 := h) rfl ?_
      refine A_icmp hM.1 rfl rfl (fun hc => ?_) (fun hc => ?_)
      · replace hh := OK_t hh hc
        exact c_X12_givenOf_j28 hM v1 v2 x.1 x.2 h hin hout0 hh
      · replace hh := OK_f hh hc
        refine A_blk hM.1 3 (lv1 := [some (aR 150), some (aI v1), some (aI v2), some (aI x.1), some (aI x.2)]) (s1 := [aI x.2, aR 197]) (h1 := h) rfl ?_
        obtain ⟨g4, hh⟩ := OK_g hh
        refine A_ald hM.1 rfl (Or.inl ⟨rfl, rfl⟩) rfl (by decide) rfl g4 ?_
        refine A_blk hM.1 1 (lv1 := [some (aR 150), some (aI v1), some (aI v2), some (aI (h 197 ((w32 x.2).toNat))), some (aI x.2)]) (s1 := []) (h1 := h) rfl ?_
        exact c_X12_givenOf_j28 hM v1 v2 (h 197 ((w32 x.2).toNat)) x.2 h hin hout0 hh

set_option maxRecDepth 20000 in
set_option maxHeartbeats 4000000 in
theorem c_X12_givenOf {k0 : K0} {G : Gx} {Qp : Option AV → Fx → Hp → Prop} (hM : MB (KM k0 0 0 Qp) G M_X12_givenOf 1) (v1 : Int) (v2 : Int) (h : Hp)   {P : Int → Prop} (hq : ∀ z : Int, P z → Qp (some (aI z)) FN h) (hh : OK (X12_givenOf v1 v2 h) P) : ATk (KM k0 0 0 Qp) FN 0 0 M_X12_givenOf 0 [some (aR 150), some (aI v1), some (aI v2), none, none] [] h := by
  unfold X12_givenOf at hh
  refine A_blk hM.1 3 (lv1 := [some (aR 150), some (aI v1), some (aI v2), none, none]) (s1 := [aI v1, aR 161]) (h1 := h) rfl ?_
  obtain ⟨g1, hh⟩ := OK_g hh
  refine A_ald hM.1 rfl (Or.inl ⟨rfl, rfl⟩) rfl (by decide) rfl g1 ?_
  refine A_blk hM.1 3 (lv1 := [some (aR 150), some (aI v1), some (aI v2), some (aI (h 161 ((w32 v1).toNat))), some (aI 0)]) (s1 := []) (h1 := h) rfl ?_
  refine iter_ok (s := (h 161 ((w32 v1).toNat), 0)) (Gp := fun z => ATk (KM k0 0 0 Qp) FN 0 0 M_X12_givenOf 7 [some (aR 150), some (aI v1), some (aI v2), some (aI z.1), some (aI z.2)] [] h) (E := fun z => ATk (KM k0 0 0 Qp) FN 0 0 M_X12_givenOf 30 [none, none, none, some (aI z), none] [] h) (fun z P1 g1 g2 g3 => c_X12_givenOf_l7 hM v1 v2 h z g2 g3 g1) (OK_bind hh) (fun x5 hh => ?_)
  refine A_blk hM.1 1 (lv1 := [none, none, none, some (aI x5), none]) (s1 := [aI x5]) (h1 := h) rfl ?_
  exact A_reti hM.1 rfl rfl rfl (hq x5 hh)

set_option maxRecDepth 20000 in
set_option maxHeartbeats 4000000 in
theorem ct_X12_givenOf {G : Gx} (v1 : Int) (v2 : Int) (h : Hp)   {P : Int → Prop} (hh : OK (X12_givenOf v1 v2 h) P) : CT G yX12_givenOf M_X12_givenOf 1 0 0 FN h [aR 150, aI v1, aI v2] (fun r F' h' => F' = FN ∧ ∃ z, r = some (aI z) ∧ h' = h ∧ P z) :=
  CT.of (by decide +kernel) rfl (Nat.le_of_ble_eq_true rfl) k_X12_givenOf fun k0 _ _ hM => c_X12_givenOf hM v1 v2 h (fun z hz => ⟨rfl, z, rfl, rfl, hz⟩) hh

theorem mi_X12_given : MIv yX12_given M_X12_given 2 := ⟨⟨(mem_GW 2336 (by decide +kernel) rfl), (mem_GW 135 (by decide +kernel) rfl), by decide +kernel, by decide +kernel, by decide +kernel, by decide⟩, (mem_GW 2334 (by decide +kernel) rfl), (mem_GW 2335 (by decide +kernel) rfl)⟩
set_option maxRecDepth 20000 in
set_option maxHeartbeats 4000000 in
theorem c_X12_given {k0 : K0} {G : Gx} {Qp : Option AV → Fx → Hp → Prop} (hM : MB (KM k0 0 0 Qp) G M_X12_given 3) (v1 : Int) (v2 : Int) (h : Hp)   {P : Int → Prop} (hq : ∀ z : Int, P z → Qp (some (aI z)) FN h) (hh : OK (X12_given v1 v2 h) P) : ATk (KM k0 0 0 Qp) FN 0 0 M_X12_given 0 [some (aR 150), some (aI v1), some (aI v2)] [] h := by
  unfold X12_given at hh
  refine A_blk hM.1 2 (lv1 := [some (aR 150), some (aI v1), some (aI v2)]) (s1 := [aI v1, aR 150]) (h1 := h) rfl ?_
  refine A_callV hM rfl rfl (mem_GW 2086 (by decide +kernel) rfl) mi_X12_isBit (As := [aI v1]) (rest := []) (ct_X12_isBit v1 h (OK_bind hh)) (by decide) ⟨Nat.zero_le _, Nat.zero_le _⟩ rfl rfl (Nat.le_of_ble_eq_true rfl) (by decide) rfl (by decide) rfl (fun r F' h' hq1 => ?_)
  obtain ⟨rfl, r1, rfl, e9, hh⟩ := hq1
  subst h'
  refine A_ifc hM.1 rfl rfl (fun hc => ?_) (fun hc => ?_)
  · replace hh := OK_t hh hc
    refine A_blk hM.1 1 (lv1 := [some (aR 150), some (aI v1), some (aI v2)]) (s1 := [aI (-2)]) (h1 := h) rfl ?_
    exact A_reti hM.1 rfl rfl rfl (hq (-2) hh)
  · replace hh := OK_f hh hc
    refine A_blk hM.1 1 (lv1 := [some (aR 150), some (aI v1), some (aI v2)]) (s1 := [aI v2]) (h1 := h) rfl ?_
    refine A_callS hM rfl rfl (mem_GW 2329 (by decide +kernel) rfl) mi_X12_isYear ms_X12_isYear (As := [aI v2]) (rest := []) (ct_X12_isYear v2 h (OK_bind hh)) (by decide) ⟨Nat.zero_le _, Nat.zero_le _⟩ rfl rfl (Nat.le_of_ble_eq_true rfl) (fun r F' h' hq1 => ?_)
    obtain ⟨rfl, r2, rfl, e9, hh⟩ := hq1
    subst h'
    refine A_ifc hM.1 rfl rfl (fun hc => ?_) (fun hc => ?_)
    · replace hh := OK_t hh hc
      refine A_blk hM.1 1 (lv1 := [some (aR 150), some (aI v1), some (aI v2)]) (s1 := [aI (-2)]) (h1 := h) rfl ?_
      exact A_reti hM.1 rfl rfl rfl (hq (-2) hh)
    · replace hh := OK_f hh hc
      refine A_blk hM.1 3 (lv1 := [some (aR 150), some (aI v1), some (aI v2)]) (s1 := [aI v2, aI v1, aR 150]) (h1 := h) rfl ?_
      refine A_callV hM rfl rfl (mem_GW 2337 (by decide +kernel) rfl) mi_X12_givenOf (As := [aI v1, aI v2]) (rest := []) (ct_X12_givenOf v1 v2 h (OK_bind hh)) (by decide) ⟨Nat.zero_le _, Nat.zero_le _⟩ rfl rfl (Nat.le_of_ble_eq_true rfl) (by decide) rfl (by decide) rfl (fun r F' h' hq1 => ?_)
      obtain ⟨rfl, r3, rfl, e9, hh⟩ := hq1
      subst h'
      refine A_go hM.1 rfl rfl ?_
      exact A_reti hM.1 rfl rfl rfl (hq r3 hh)

set_option maxRecDepth 20000 in
set_option maxHeartbeats 4000000 in
theorem ct_X12_given {G : Gx} (v1 : Int) (v2 : Int) (h : Hp)   {P : Int → Prop} (hh : OK (X12_given v1 v2 h) P) : CT G yX12_given M_X12_given 3 0 0 FN h [aR 150, aI v1, aI v2] (fun r F' h' => F' = FN ∧ ∃ z, r = some (aI z) ∧ h' = h ∧ P z) :=
  CT.of (by decide +kernel) rfl (Nat.le_of_ble_eq_true rfl) k_X12_given fun k0 _ _ hM => c_X12_given hM v1 v2 h (fun z hz => ⟨rfl, z, rfl, rfl, hz⟩) hh

theorem mi_X12_wrong : MIv yX12_wrong M_X12_wrong 1 := ⟨⟨(mem_GW 2344 (by decide +kernel) rfl), (mem_GW 135 (by decide +kernel) rfl), by decide +kernel, by decide +kernel, by decide +kernel, by decide⟩, (mem_GW 2342 (by decide +kernel) rfl), (mem_GW 2343 (by decide +kernel) rfl)⟩
set_option maxRecDepth 20000 in
set_option maxHeartbeats 4000000 in
theorem c_X12_wrong_j51 {k0 : K0} {G : Gx} {Qp : Option AV → Fx → Hp → Prop} (hM : MB (KM k0 0 0 Qp) G M_X12_wrong 3) (v1 : Int) (v2 : Int) (v4 : Int) (h : Hp)   {P : ((Int × Int) ⊕ (Int)) → Prop} (hin : ∀ y : Int × Int, P (.inl y) → ATk (KM k0 0 0 Qp) FN 0 0 M_X12_wrong 9 [some (aR 150), some (aI v1), some (aL y.1), none, some (aI y.2), none] [] h) (hout0 : ∀ y : Int, P (.inr y) → ATk (KM k0 0 0 Qp) FN 0 0 M_X12_wrong 53 [none, none, some (aL y), none, none, none] [] h) (hh : OK (X12_wrong_j51 v1 v2 v4 h) P) : ATk (KM k0 0 0 Qp) FN 0 0 M_X12_wrong 51 [some (aR 150), some (aI v1), some (aL v2), none, some (aI v4), none] [] h := by
  unfold X12_wrong_j51 at hh
  refine A_blk hM.1 1 (lv1 := [some (aR 150), some (aI v1), some (aL v2), none, some (aI (v4 + 1)), none]) (s1 := []) (h1 := h) rfl ?_
  refine A_go hM.1 rfl rfl ?_
  exact hin (v2, v4 + 1) hh

set_option maxRecDepth 20000 in
set_option maxHeartbeats 4000000 in
theorem c_X12_wrong_j45 {k0 : K0} {G : Gx} {Qp : Option AV → Fx → Hp → Prop} (hM : MB (KM k0 0 0 Qp) G M_X12_wrong 3) (v1 : Int) (v2 : Int) (v4 : Int) (h : Hp)   {P : ((Int × Int) ⊕ (Int)) → Prop} (hin : ∀ y : Int × Int, P (.inl y) → ATk (KM k0 0 0 Qp) FN 0 0 M_X12_wrong 9 [some (aR 150), some (aI v1), some (aL y.1), none, some (aI y.2), none] [] h) (hout0 : ∀ y : Int, P (.inr y) → ATk (KM k0 0 0 Qp) FN 0 0 M_X12_wrong 53 [none, none, some (aL y), none, none, none] [] h) (hh : OK (X12_wrong_j45 v1 v2 v4 h) P) : ATk (KM k0 0 0 Qp) FN 0 0 M_X12_wrong 45 [some (aR 150), some (aI v1), some (aL v2), none, some (aI v4), none] [] h := by
  unfold X12_wrong_j45 at hh
  refine A_blk hM.1 6 (lv1 := [some (aR 150), some (aI v1), some (aL (or64 v2 (shl64 1 v4))), none, some (aI v4), none]) (s1 := []) (h1 := h) rfl ?_
  exact c_X12_wrong_j51 hM v1 (or64 v2 (shl64 1 v4)) v4 h hin hout0 hh

set_option maxRecDepth 20000 in
set_option maxHeartbeats 4000000 in
theorem c_X12_wrong_l9 {k0 : K0} {G : Gx} {Qp : Option AV → Fx → Hp → Prop} (hM : MB (KM k0 0 0 Qp) G M_X12_wrong 3) (v1 : Int) (h : Hp) (x : Int × Int)   {P : ((Int × Int) ⊕ (Int)) → Prop} (hin : ∀ y : Int × Int, P (.inl y) → ATk (KM k0 0 0 Qp) FN 0 0 M_X12_wrong 9 [some (aR 150), some (aI v1), some (aL y.1), none, some (aI y.2), none] [] h) (hout0 : ∀ y : Int, P (.inr y) → ATk (KM k0 0 0 Qp) FN 0 0 M_X12_wrong 53 [none, none, some (aL y), none, none, none] [] h) (hh : OK (X12_wrong_l9 v1 h x) P) : ATk (KM k0 0 0 Qp) FN 0 0 M_X12_wrong 9 [some (aR 150), some (aI v1), some (aL x.1), none, some (aI x.2), none] [] h := by
  unfold X12_wrong_l9 at hh
  refine A_blk hM.1 3 (lv1 := [some (aR 150), some (aI v1), some (aL x.1), none, some (aI x.2), none]) (s1 := [aI (h 150 5), aI x.2]) (h1 := h) rfl ?_
  refine A_icmp hM.1 rfl rfl (fun hc => ?_) (fun hc => ?_)
  · replace hh := OK_t hh hc
    refine A_mask [false, false, true, true, false, true] (lv1 := [none, none, some (aL x.1), none, none, none]) rfl ?_
    exact hout0 x.1 hh
  · replace hh := OK_f hh hc
    refine A_blk hM.1 3 (lv1 := [some (aR 150), some (aI v1), some (aL x.1), none, some (aI x.2), none]) (s1 := [aI v1, aI x.2, aR 150]) (h1 := h) rfl ?_
    refine A_callV hM rfl rfl (mem_GW 2337 (by decide +kernel) rfl) mi_X12_givenOf (As := [aI x.2, aI v1]) (rest := []) (ct_X12_givenOf x.2 v1 h (OK_bind hh)) (by decide) ⟨Nat.zero_le _, Nat.zero_le _⟩ rfl rfl (Nat.le_of_ble_eq_true rfl) (by decide) rfl (by decide) rfl (fun r F' h' hq1 => ?_)
    obtain ⟨rfl, r2, rfl, e9, hh⟩ := hq1
    subst h'
    refine A_blk hM.1 3 (lv1 := [some (aR 150), some (aI v1), some (aL x.1), none, some (aI x.2), some (aI r2)]) (s1 := [aI (-1), aI r2]) (h1 := h) rfl ?_
    refine A_icmp hM.1 rfl rfl (fun hc => ?_) (fun hc => ?_)
    · replace hh := OK_t hh hc
      refine A_mask [true, true, true, true, true, false] (lv1 := [some (aR 150), some (aI v1), some (aL x.1), none, some (aI x.2), none]) rfl ?_
      exact c_X12_wrong_j51 hM v1 x.1 x.2 h hin hout0 hh
    · replace hh := OK_f hh hc
      refine A_blk hM.1 5 (lv1 := [some (aR 150), some (aI v1), some (aL x.1), none, some (aI x.2), some (aI r2)]) (s1 := [aI r2, aR 154, aR 152]) (h1 := h) rfl ?_
      obtain ⟨g3, hh⟩ := OK_g hh
      refine A_ald hM.1 rfl (Or.inl ⟨rfl, rfl⟩) rfl (by decide) rfl g3 ?_
      obtain ⟨g4, hh⟩ := OK_g hh
      refine A_ald hM.1 rfl (Or.inl ⟨rfl, rfl⟩) rfl (by decide) rfl g4 ?_
      refine A_blk hM.1 5 (lv1 := [some (aR 150), some (aI v1), some (aL x.1), none, some (aI x.2), some (aI r2)]) (s1 := [aI x.2, aR 160, aR 159, aI (h 152 ((w32 (h 154 ((w32 r2).toNat))).toNat))]) (h1 := h) rfl ?_
      obtain ⟨g5, hh⟩ := OK_g hh
      refine A_ald hM.1 rfl (Or.inl ⟨rfl, rfl⟩) rfl (by decide) rfl g5 ?_
      obtain ⟨g6, hh⟩ := OK_g hh
      refine A_ald hM.1 rfl (Or.inl ⟨rfl, rfl⟩) rfl (by decide) rfl g6 ?_
      refine A_icmp hM.1 rfl rfl (fun hc => ?_) (fun hc => ?_)
      · replace hh := OK_t hh hc
        refine A_mask [true, true, true, true, true, false] (lv1 := [some (aR 150), some (aI v1), some (aL x.1), none, some (aI x.2), none]) rfl ?_
        exact c_X12_wrong_j45 hM v1 x.1 x.2 h hin hout0 hh
      · replace hh := OK_f hh hc
        refine A_blk hM.1 3 (lv1 := [some (aR 150), some (aI v1), some (aL x.1), none, some (aI x.2), some (aI r2)]) (s1 := [aI r2, aR 155]) (h1 := h) rfl ?_
        obtain ⟨g7, hh⟩ := OK_g hh
        refine A_ald hM.1 rfl (Or.inl ⟨rfl, rfl⟩) rfl (by decide) rfl g7 ?_
        refine A_blk hM.1 3 (lv1 := [some (aR 150), some (aI v1), some (aL x.1), none, some (aI x.2), some (aI r2)]) (s1 := [aI x.2, aR 162, aI (h 155 ((w32 r2).toNat))]) (h1 := h) rfl ?_
        obtain ⟨g8, hh⟩ := OK_g hh
        refine A_ald hM.1 rfl (Or.inl ⟨rfl, rfl⟩) rfl (by decide) rfl g8 ?_
        refine A_icmp hM.1 rfl rfl (fun hc => ?_) (fun hc => ?_)
        · replace hh := OK_t hh hc
          refine A_mask [true, true, true, true, true, false] (lv1 := [some (aR 150), some (aI v1), some (aL x.1), none, some (aI x.2), none]) rfl ?_
          exact c_X12_wrong_j51 hM v1 x.1 x.2 h hin hout0 hh
        · replace hh := OK_f hh hc
          refine A_mask [true, true, true, true, true, false] (lv1 := [some (aR 150), some (aI v1), some (aL x.1), none, some (aI x.2), none]) rfl ?_
          exact c_X12_wrong_j45 hM v1 x.1 x.2 h hin hout0 hh

set_option maxRecDepth 20000 in
set_option maxHeartbeats 4000000 in
theorem c_X12_wrong {k0 : K0} {G : Gx} {Qp : Option AV → Fx → Hp → Prop} (hM : MB (KM k0 0 0 Qp) G M_X12_wrong 3) (v1 : Int) (h : Hp)   {P : Int → Prop} (hq : ∀ z : Int, P z → Qp (some (aL z)) FN h) (hh : OK (X12_wrong v1 h) P) : ATk (KM k0 0 0 Qp) FN 0 0 M_X12_wrong 0 [some (aR 150), some (aI v1), none, none, none, none] [] h := by
  unfold X12_wrong at hh
  refine A_blk hM.1 1 (lv1 := [some (aR 150), some (aI v1), none, none, none, none]) (s1 := [aI v1]) (h1 := h) rfl ?_
  refine A_callS hM rfl rfl (mem_GW 2329 (by decide +kernel) rfl) mi_X12_isYear ms_X12_isYear (As := [aI v1]) (rest := []) (ct_X12_isYear v1 h (OK_bind hh)) (by decide) ⟨Nat.zero_le _, Nat.zero_le _⟩ rfl rfl (Nat.le_of_ble_eq_true rfl) (fun r F' h' hq1 => ?_)
  obtain ⟨rfl, r1, rfl, e9, hh⟩ := hq1
  subst h'
  refine A_ifc hM.1 rfl rfl (fun hc => ?_) (fun hc => ?_)
  · replace hh := OK_t hh hc
    refine A_blk hM.1 4 (lv1 := [some (aR 150), some (aI v1), some (aL 0), none, some (aI 0), none]) (s1 := []) (h1 := h) rfl ?_
    refine iter_ok (s := (0, 0)) (Gp := fun z => ATk (KM k0 0 0 Qp) FN 0 0 M_X12_wrong 9 [some (aR 150), some (aI v1), some (aL z.1), none, some (aI z.2), none] [] h) (E := fun z => ATk (KM k0 0 0 Qp) FN 0 0 M_X12_wrong 53 [none, none, some (aL z), none, none, none] [] h) (fun z P1 g1 g2 g3 => c_X12_wrong_l9 hM v1 h z g2 g3 g1) (OK_bind hh) (fun x9 hh => ?_)
    refine A_blk hM.1 1 (lv1 := [none, none, some (aL x9), none, none, none]) (s1 := [aL x9]) (h1 := h) rfl ?_
    exact A_retl hM.1 rfl rfl rfl (hq x9 hh)
  · replace hh := OK_f hh hc
    refine A_blk hM.1 1 (lv1 := [some (aR 150), some (aI v1), none, none, none, none]) (s1 := [aL (-1)]) (h1 := h) rfl ?_
    exact A_retl hM.1 rfl rfl rfl (hq (-1) hh)

set_option maxRecDepth 20000 in
set_option maxHeartbeats 4000000 in
theorem ct_X12_wrong {G : Gx} (v1 : Int) (h : Hp)   {P : Int → Prop} (hh : OK (X12_wrong v1 h) P) : CT G yX12_wrong M_X12_wrong 3 0 0 FN h [aR 150, aI v1] (fun r F' h' => F' = FN ∧ ∃ z, r = some (aL z) ∧ h' = h ∧ P z) :=
  CT.of (by decide +kernel) rfl (Nat.le_of_ble_eq_true rfl) k_X12_wrong fun k0 _ _ hM => c_X12_wrong hM v1 h (fun z hz => ⟨rfl, z, rfl, rfl, hz⟩) hh

theorem mi_X12_numberAt : MIv yX12_numberAt M_X12_numberAt 1 := ⟨⟨(mem_GW 2352 (by decide +kernel) rfl), (mem_GW 135 (by decide +kernel) rfl), by decide +kernel, by decide +kernel, by decide +kernel, by decide⟩, (mem_GW 2351 (by decide +kernel) rfl), (mem_GW 121 (by decide +kernel) rfl)⟩
set_option maxRecDepth 20000 in
set_option maxHeartbeats 4000000 in
theorem c_X12_numberAt_l4 {k0 : K0} {G : Gx} {Qp : Option AV → Fx → Hp → Prop} (hM : MB (KM k0 0 0 Qp) G M_X12_numberAt 1) (v1 : Int) (h : Hp) (x : Int × Int)   {P : ((Int × Int) ⊕ (Int)) → Prop} (hin : ∀ y : Int × Int, P (.inl y) → ATk (KM k0 0 0 Qp) FN 0 0 M_X12_numberAt 4 [some (aR 150), some (aI v1), some (aI y.1), some (aI y.2)] [] h) (hout0 : ∀ y : Int, P (.inr y) → ATk (KM k0 0 0 Qp) FN 0 0 M_X12_numberAt 24 [none, none, some (aI y), none] [] h) (hh : OK (X12_numberAt_l4 v1 h x) P) : ATk (KM k0 0 0 Qp) FN 0 0 M_X12_numberAt 4 [some (aR 150), some (aI v1), some (aI x.1), some (aI x.2)] [] h := by
  unfold X12_numberAt_l4 at hh
  refine A_blk hM.1 2 (lv1 := [some (aR 150), some (aI v1), some (aI x.1), some (aI x.2)]) (s1 := [aI 4, aI x.2]) (h1 := h) rfl ?_
  refine A_icmp hM.1 rfl rfl (fun hc => ?_) (fun hc => ?_)
  · replace hh := OK_t hh hc
    refine A_mask [false, false, true, false] (lv1 := [none, none, some (aI x.1), none]) rfl ?_
    exact hout0 x.1 hh
  · replace hh := OK_f hh hc
    refine A_blk hM.1 10 (lv1 := [some (aR 150), some (aI v1), some (aI x.1), some (aI x.2)]) (s1 := [aI ((4 * v1) + x.2), aR 151, aI (shl32 x.1 8)]) (h1 := h) rfl ?_
    obtain ⟨g1, hh⟩ := OK_g hh
    refine A_ald hM.1 rfl (Or.inr ⟨rfl, (Or.inl rfl)⟩) rfl (by decide) rfl g1 ?_
    refine A_blk hM.1 5 (lv1 := [some (aR 150), some (aI v1), some (aI (or32 (shl32 x.1 8) (and32 (h 151 ((w32 ((4 * v1) + x.2)).toNat)) 255))), some (aI (x.2 + 1))]) (s1 := []) (h1 := h) rfl ?_
    refine A_go hM.1 rfl rfl ?_
    exact hin (or32 (shl32 x.1 8) (and32 (h 151 ((w32 ((4 * v1) + x.2)).toNat)) 255), x.2 + 1) hh

set_option maxRecDepth 20000 in
set_option maxHeartbeats 4000000 in
theorem c_X12_numberAt {k0 : K0} {G : Gx} {Qp : Option AV → Fx → Hp → Prop} (hM : MB (KM k0 0 0 Qp) G M_X12_numberAt 1) (v1 : Int) (h : Hp)   {P : Int → Prop} (hq : ∀ z : Int, P z → Qp (some (aI z)) FN h) (hh : OK (X12_numberAt v1 h) P) : ATk (KM k0 0 0 Qp) FN 0 0 M_X12_numberAt 0 [some (aR 150), some (aI v1), none, none] [] h := by
  unfold X12_numberAt at hh
  refine A_blk hM.1 4 (lv1 := [some (aR 150), some (aI v1), some (aI 0), some (aI 0)]) (s1 := []) (h1 := h) rfl ?_
  refine iter_ok (s := (0, 0)) (Gp := fun z => ATk (KM k0 0 0 Qp) FN 0 0 M_X12_numberAt 4 [some (aR 150), some (aI v1), some (aI z.1), some (aI z.2)] [] h) (E := fun z => ATk (KM k0 0 0 Qp) FN 0 0 M_X12_numberAt 24 [none, none, some (aI z), none] [] h) (fun z P1 g1 g2 g3 => c_X12_numberAt_l4 hM v1 h z g2 g3 g1) (OK_bind hh) (fun x2 hh => ?_)
  refine A_blk hM.1 1 (lv1 := [none, none, some (aI x2), none]) (s1 := [aI x2]) (h1 := h) rfl ?_
  exact A_reti hM.1 rfl rfl rfl (hq x2 hh)

set_option maxRecDepth 20000 in
set_option maxHeartbeats 4000000 in
theorem ct_X12_numberAt {G : Gx} (v1 : Int) (h : Hp)   {P : Int → Prop} (hh : OK (X12_numberAt v1 h) P) : CT G yX12_numberAt M_X12_numberAt 1 0 0 FN h [aR 150, aI v1] (fun r F' h' => F' = FN ∧ ∃ z, r = some (aI z) ∧ h' = h ∧ P z) :=
  CT.of (by decide +kernel) rfl (Nat.le_of_ble_eq_true rfl) k_X12_numberAt fun k0 _ _ hM => c_X12_numberAt hM v1 h (fun z hz => ⟨rfl, z, rfl, rfl, hz⟩) hh

theorem mi_X12_check : MIv yX12_check M_X12_check 2 := ⟨⟨(mem_GW 2348 (by decide +kernel) rfl), (mem_GW 135 (by decide +kernel) rfl), by decide +kernel, by decide +kernel, by decide +kernel, by decide⟩, (mem_GW 2346 (by decide +kernel) rfl), (mem_GW 2347 (by decide +kernel) rfl)⟩
set_option maxRecDepth 20000 in
set_option maxHeartbeats 4000000 in
theorem c_X12_check_l19 {k0 : K0} {G : Gx} {Qp : Option AV → Fx → Hp → Prop} (hM : MB (KM k0 0 0 Qp) G M_X12_check 3) (v1 : Int) (v2 : Int) (x : Int × Hp)   {P : ((Int × Hp) ⊕ ((Hp) ⊕ (Int × Hp) ⊕ (Hp))) → Prop} (hin : ∀ y : Int × Hp, P (.inl y) → ATk (KM k0 0 0 Qp) FN 0 0 M_X12_check 19 [some (aR 150), some (aI v1), some (aI v2), some (aI y.1)] [] y.2) (hout0 : ∀ y : Hp, P (.inr (.inl y)) → ATk (KM k0 0 0 Qp) FN 0 0 M_X12_check 28 [none, none, some (aI v2), none] [] y) (hout1 : ∀ y : Int × Hp, P (.inr (.inr (.inl y))) → ATk (KM k0 0 0 Qp) FN 0 0 M_X12_check 42 [none, none, none, some (aI y.1)] [] y.2) (hout2 : ∀ y : Hp, P (.inr (.inr (.inr y))) → ATk (KM k0 0 0 Qp) FN 0 0 M_X12_check 46 [some (aR 150), some (aI v1), some (aI v2), none] [] y) (hh : OK (X12_check_l19 v1 v2 x) P) : ATk (KM k0 0 0 Qp) FN 0 0 M_X12_check 19 [some (aR 150), some (aI v1), some (aI v2), some (aI x.1)] [] x.2 := by
  unfold X12_check_l19 at hh
  refine A_blk hM.1 4 (lv1 := [some (aR 150), some (aI v1), some (aI v2), some (aI x.1)]) (s1 := [aI v1, aR 164, aI x.1]) (h1 := x.2) rfl ?_
  obtain ⟨g3, hh⟩ := OK_g hh
  refine A_ald hM.1 rfl (Or.inl ⟨rfl, rfl⟩) rfl (by decide) rfl g3 ?_
  refine A_icmp hM.1 rfl rfl (fun hc => ?_) (fun hc => ?_)
  · replace hh := OK_t hh hc
    refine A_mask [true, true, true, false] (lv1 := [some (aR 150), some (aI v1), some (aI v2), none]) rfl ?_
    exact hout2 x.2 hh
  · replace hh := OK_f hh hc
    refine A_blk hM.1 2 (lv1 := [some (aR 150), some (aI v1), some (aI v2), some (aI x.1)]) (s1 := [aI v2, aI x.1]) (h1 := x.2) rfl ?_
    refine A_icmp hM.1 rfl rfl (fun hc => ?_) (fun hc => ?_)
    · replace hh := OK_t hh hc
      refine A_blk hM.1 2 (lv1 := [some (aR 150), some (aI v1), some (aI v2), some (aI x.1)]) (s1 := [aI x.1, aR 150]) (h1 := x.2) rfl ?_
      refine A_callV hM rfl rfl (mem_GW 2349 (by decide +kernel) rfl) mi_X12_numberAt (As := [aI x.1]) (rest := []) (ct_X12_numberAt x.1 x.2 (OK_bind hh)) (by decide) ⟨Nat.zero_le _, Nat.zero_le _⟩ rfl rfl (Nat.le_of_ble_eq_true rfl) (by decide) rfl (by decide) rfl (fun r F' h' hq1 => ?_)
      obtain ⟨rfl, r4, rfl, e9, hh⟩ := hq1
      subst h'
      refine A_blk hM.1 7 (lv1 := [some (aR 150), some (aI v1), some (aI v2), some (aI x.1)]) (s1 := [aI ((8 * v1) + x.1), aR 165, aI r4]) (h1 := x.2) rfl ?_
      obtain ⟨g5, hh⟩ := OK_g hh
      refine A_ald hM.1 rfl (Or.inl ⟨rfl, rfl⟩) rfl (by decide) rfl g5 ?_
      refine A_icmp hM.1 rfl rfl (fun hc => ?_) (fun hc => ?_)
      · replace hh := OK_t hh hc
        refine A_blk hM.1 1 (lv1 := [some (aR 150), some (aI v1), some (aI v2), some (aI (x.1 + 1))]) (s1 := []) (h1 := x.2) rfl ?_
        refine A_go hM.1 rfl rfl ?_
        exact hin (x.1 + 1, x.2) hh
      · replace hh := OK_f hh hc
        refine A_mask [false, false, false, true] (lv1 := [none, none, none, some (aI x.1)]) rfl ?_
        exact hout1 (x.1, x.2) hh
    · replace hh := OK_f hh hc
      refine A_mask [false, false, true, false] (lv1 := [none, none, some (aI v2), none]) rfl ?_
      exact hout0 x.2 hh

set_option maxRecDepth 20000 in
set_option maxHeartbeats 4000000 in
theorem c_X12_check {k0 : K0} {G : Gx} {Qp : Option AV → Fx → Hp → Prop} (hM : MB (KM k0 0 0 Qp) G M_X12_check 3) (v1 : Int) (v2 : Int) (h : Hp)   {P : (Int × Hp) → Prop} (hq : ∀ z : Int × Hp, P z → Qp (some (aI z.1)) FN z.2) (hh : OK (X12_check v1 v2 h) P) : ATk (KM k0 0 0 Qp) FN 0 0 M_X12_check 0 [some (aR 150), some (aI v1), some (aI v2), none] [] h := by
  unfold X12_check at hh
  refine A_blk hM.1 2 (lv1 := [some (aR 150), some (aI v1), some (aI v2), none]) (s1 := [aI v1, aR 150]) (h1 := h) rfl ?_
  refine A_callV hM rfl rfl (mem_GW 2086 (by decide +kernel) rfl) mi_X12_isBit (As := [aI v1]) (rest := []) (ct_X12_isBit v1 h (OK_bind hh)) (by decide) ⟨Nat.zero_le _, Nat.zero_le _⟩ rfl rfl (Nat.le_of_ble_eq_true rfl) (by decide) rfl (by decide) rfl (fun r F' h' hq1 => ?_)
  obtain ⟨rfl, r1, rfl, e9, hh⟩ := hq1
  subst h'
  refine A_ifc hM.1 rfl rfl (fun hc => ?_) (fun hc => ?_)
  · replace hh := OK_t hh hc
    refine A_blk hM.1 1 (lv1 := [some (aR 150), some (aI v1), some (aI v2), none]) (s1 := [aI (-2)]) (h1 := h) rfl ?_
    exact A_reti hM.1 rfl rfl rfl (hq ((-2), h) hh)
  · replace hh := OK_f hh hc
    refine A_blk hM.1 1 (lv1 := [some (aR 150), some (aI v1), some (aI v2), none]) (s1 := [aI v2]) (h1 := h) rfl ?_
    refine A_ifc hM.1 rfl rfl (fun hc => ?_) (fun hc => ?_)
    · replace hh := OK_t hh hc
      refine A_blk hM.1 1 (lv1 := [some (aR 150), some (aI v1), some (aI v2), none]) (s1 := [aI (-2)]) (h1 := h) rfl ?_
      exact A_reti hM.1 rfl rfl rfl (hq ((-2), h) hh)
    · replace hh := OK_f hh hc
      refine A_blk hM.1 4 (lv1 := [some (aR 150), some (aI v1), some (aI v2), none]) (s1 := [aI 4, aI (h 150 1), aI v2]) (h1 := h) rfl ?_
      obtain ⟨g2, hh⟩ := OK_g hh
      refine A_idiv hM.1 rfl rfl g2 ?_
      refine A_icmp hM.1 rfl rfl (fun hc => ?_) (fun hc => ?_)
      · replace hh := OK_t hh hc
        refine A_blk hM.1 5 (lv1 := [some (aR 150), some (aI v1), some (aI v2), some (aI 0)]) (s1 := []) (h1 := setH h 150 1 0) rfl ?_
        refine iter_ok (s := (0, setH h 150 1 0)) (Gp := fun z => ATk (KM k0 0 0 Qp) FN 0 0 M_X12_check 19 [some (aR 150), some (aI v1), some (aI v2), some (aI z.1)] [] z.2) (E := fun z => (∀ y, z = (.inl y) → ATk (KM k0 0 0 Qp) FN 0 0 M_X12_check 28 [none, none, some (aI v2), none] [] y) ∧ (∀ y, z = (.inr (.inl y)) → ATk (KM k0 0 0 Qp) FN 0 0 M_X12_check 42 [none, none, none, some (aI y.1)] [] y.2) ∧ (∀ y, z = (.inr (.inr y)) → ATk (KM k0 0 0 Qp) FN 0 0 M_X12_check 46 [some (aR 150), some (aI v1), some (aI v2), none] [] y)) (fun z P1 g1 g2 g3 => c_X12_check_l19 hM v1 v2 z g2 (fun y hy => (g3 (.inl y) hy).1 y rfl) (fun y hy => (g3 (.inr (.inl y)) hy).2.1 y rfl) (fun y hy => (g3 (.inr (.inr y)) hy).2.2 y rfl) g1) (OK_bind hh) (fun x6 hh => ?_)
        refine ⟨fun y e => ?_, fun y e => ?_, fun y e => ?_⟩
        · obtain ⟨y7, rfl⟩ : ∃ z, z = y := ⟨_, rfl⟩
          subst e
          refine A_blk hM.1 1 (lv1 := [none, none, some (aI v2), none]) (s1 := [aI v2]) (h1 := y7) rfl ?_
          exact A_reti hM.1 rfl rfl rfl (hq (v2, y7) hh)
        · obtain ⟨y8, rfl⟩ : ∃ z, z = y := ⟨_, rfl⟩
          subst e
          refine A_blk hM.1 1 (lv1 := [none, none, none, some (aI y8.1)]) (s1 := [aI y8.1]) (h1 := y8.2) rfl ?_
          exact A_reti hM.1 rfl rfl rfl (hq (y8.1, y8.2) hh)
        · obtain ⟨y9, rfl⟩ : ∃ z, z = y := ⟨_, rfl⟩
          subst e
          refine A_blk hM.1 4 (lv1 := [some (aR 150), some (aI v1), some (aI v2), none]) (s1 := [aI v1, aR 164, aI v2]) (h1 := y9) rfl ?_
          obtain ⟨g10, hh⟩ := OK_g hh
          refine A_ald hM.1 rfl (Or.inl ⟨rfl, rfl⟩) rfl (by decide) rfl g10 ?_
          refine A_icmp hM.1 rfl rfl (fun hc => ?_) (fun hc => ?_)
          · replace hh := OK_t hh hc
            refine A_blk hM.1 3 (lv1 := [some (aR 150), some (aI v1), some (aI v2), none]) (s1 := [aI v1, aR 164]) (h1 := y9) rfl ?_
            obtain ⟨g11, hh⟩ := OK_g hh
            refine A_ald hM.1 rfl (Or.inl ⟨rfl, rfl⟩) rfl (by decide) rfl g11 ?_
            exact A_reti hM.1 rfl rfl rfl (hq (y9 164 ((w32 v1).toNat), y9) hh)
          · replace hh := OK_f hh hc
            refine A_blk hM.1 1 (lv1 := [some (aR 150), some (aI v1), some (aI v2), none]) (s1 := [aI (-1)]) (h1 := y9) rfl ?_
            refine A_go hM.1 rfl rfl ?_
            exact A_reti hM.1 rfl rfl rfl (hq ((-1), y9) hh)
      · replace hh := OK_f hh hc
        refine A_blk hM.1 1 (lv1 := [some (aR 150), some (aI v1), some (aI v2), none]) (s1 := [aI (-2)]) (h1 := h) rfl ?_
        exact A_reti hM.1 rfl rfl rfl (hq ((-2), h) hh)

set_option maxRecDepth 20000 in
set_option maxHeartbeats 4000000 in
theorem ct_X12_check {G : Gx} (v1 : Int) (v2 : Int) (h : Hp)   {P : (Int × Hp) → Prop} (hh : OK (X12_check v1 v2 h) P) : CT G yX12_check M_X12_check 3 0 0 FN h [aR 150, aI v1, aI v2] (fun r F' h' => F' = FN ∧ ∃ z, r = some (aI z.1) ∧ h' = z.2 ∧ P z) :=
  CT.of (by decide +kernel) rfl (Nat.le_of_ble_eq_true rfl) k_X12_check fun k0 _ _ hM => c_X12_check hM v1 v2 h (fun z hz => ⟨rfl, z, rfl, rfl, hz⟩) hh

theorem mi_X12_count : MIv yX12_count M_X12_count 1 := ⟨⟨(mem_GW 2356 (by decide +kernel) rfl), (mem_GW 135 (by decide +kernel) rfl), by decide +kernel, by decide +kernel, by decide +kernel, by decide⟩, (mem_GW 2354 (by decide +kernel) rfl), (mem_GW 2355 (by decide +kernel) rfl)⟩
set_option maxRecDepth 20000 in
set_option maxHeartbeats 4000000 in
theorem c_X12_count {k0 : K0} {G : Gx} {Qp : Option AV → Fx → Hp → Prop} (hM : MB (KM k0 0 0 Qp) G M_X12_count 3) (v1 : Int) (h : Hp)   {P : Int → Prop} (hq : ∀ z : Int, P z → Qp (some (aI z)) FN h) (hh : OK (X12_count v1 h) P) : ATk (KM k0 0 0 Qp) FN 0 0 M_X12_count 0 [some (aR 150), some (aI v1)] [] h := by
  unfold X12_count at hh
  refine A_blk hM.1 4 (lv1 := [some (aR 150), some (aI v1)]) (s1 := [aI (v1 - 10), aR 150]) (h1 := h) rfl ?_
  refine A_callV hM rfl rfl (mem_GW 1922 (by decide +kernel) rfl) mi_X12_isWriter (As := [aI (v1 - 10)]) (rest := []) (ct_X12_isWriter (v1 - 10) h (OK_bind hh)) (by decide) ⟨Nat.zero_le _, Nat.zero_le _⟩ rfl rfl (Nat.le_of_ble_eq_true rfl) (by decide) rfl (by decide) rfl (fun r F' h' hq1 => ?_)
  obtain ⟨rfl, r1, rfl, e9, hh⟩ := hq1
  subst h'
  refine A_ifc hM.1 rfl rfl (fun hc => ?_) (fun hc => ?_)
  · replace hh := OK_t hh hc
    refine A_blk hM.1 4 (lv1 := [some (aR 150), some (aI v1)]) (s1 := [aI (v1 - 20), aR 150]) (h1 := h) rfl ?_
    refine A_callV hM rfl rfl (mem_GW 1913 (by decide +kernel) rfl) mi_X12_isWork (As := [aI (v1 - 20)]) (rest := []) (ct_X12_isWork (v1 - 20) h (OK_bind hh)) (by decide) ⟨Nat.zero_le _, Nat.zero_le _⟩ rfl rfl (Nat.le_of_ble_eq_true rfl) (by decide) rfl (by decide) rfl (fun r F' h' hq1 => ?_)
    obtain ⟨rfl, r2, rfl, e9, hh⟩ := hq1
    subst h'
    refine A_ifc hM.1 rfl rfl (fun hc => ?_) (fun hc => ?_)
    · replace hh := OK_t hh hc
      refine A_blk hM.1 1 (lv1 := [some (aR 150), some (aI v1)]) (s1 := [aI v1]) (h1 := h) rfl ?_
      refine A_tsw hM.1 rfl [(0, 28), (1, 31), (2, 34), (3, 37), (4, 40), (5, 43), (6, 46), (7, 51), (8, 56), (9, 61)] 64 (by decide +kernel) ?_
      refine ⟨fun hc => ?_, fun hc => ?_⟩
      · replace hh := OK_t hh hc
        refine A_blk hM.1 2 (lv1 := [some (aR 150), some (aI v1)]) (s1 := [aI (h 150 2)]) (h1 := h) rfl ?_
        exact A_reti hM.1 rfl rfl rfl (hq (h 150 2) hh)
      replace hh := OK_f hh hc
      refine ⟨fun hc => ?_, fun hc => ?_⟩
      · replace hh := OK_t hh hc
        refine A_blk hM.1 2 (lv1 := [some (aR 150), some (aI v1)]) (s1 := [aI (h 150 3)]) (h1 := h) rfl ?_
        exact A_reti hM.1 rfl rfl rfl (hq (h 150 3) hh)
      replace hh := OK_f hh hc
      refine ⟨fun hc => ?_, fun hc => ?_⟩
      · replace hh := OK_t hh hc
        refine A_blk hM.1 2 (lv1 := [some (aR 150), some (aI v1)]) (s1 := [aI (h 150 4)]) (h1 := h) rfl ?_
        exact A_reti hM.1 rfl rfl rfl (hq (h 150 4) hh)
      replace hh := OK_f hh hc
      refine ⟨fun hc => ?_, fun hc => ?_⟩
      · replace hh := OK_t hh hc
        refine A_blk hM.1 2 (lv1 := [some (aR 150), some (aI v1)]) (s1 := [aI (h 150 5)]) (h1 := h) rfl ?_
        exact A_reti hM.1 rfl rfl rfl (hq (h 150 5) hh)
      replace hh := OK_f hh hc
      refine ⟨fun hc => ?_, fun hc => ?_⟩
      · replace hh := OK_t hh hc
        refine A_blk hM.1 2 (lv1 := [some (aR 150), some (aI v1)]) (s1 := [aI (h 150 6)]) (h1 := h) rfl ?_
        exact A_reti hM.1 rfl rfl rfl (hq (h 150 6) hh)
      replace hh := OK_f hh hc
      refine ⟨fun hc => ?_, fun hc => ?_⟩
      · replace hh := OK_t hh hc
        refine A_blk hM.1 2 (lv1 := [some (aR 150), some (aI v1)]) (s1 := [aI (h 150 1)]) (h1 := h) rfl ?_
        exact A_reti hM.1 rfl rfl rfl (hq (h 150 1) hh)
      replace hh := OK_f hh hc
      refine ⟨fun hc => ?_, fun hc => ?_⟩
      · replace hh := OK_t hh hc
        refine A_blk hM.1 3 (lv1 := [some (aR 150), some (aI v1)]) (s1 := [aI 8, aR 166]) (h1 := h) rfl ?_
        obtain ⟨g3, hh⟩ := OK_g hh
        refine A_ald hM.1 rfl (Or.inl ⟨rfl, rfl⟩) rfl (by decide) rfl g3 ?_
        exact A_reti hM.1 rfl rfl rfl (hq (h 166 ((w32 8).toNat)) hh)
      replace hh := OK_f hh hc
      refine ⟨fun hc => ?_, fun hc => ?_⟩
      · replace hh := OK_t hh hc
        refine A_blk hM.1 3 (lv1 := [some (aR 150), some (aI v1)]) (s1 := [aI 9, aR 166]) (h1 := h) rfl ?_
        obtain ⟨g4, hh⟩ := OK_g hh
        refine A_ald hM.1 rfl (Or.inl ⟨rfl, rfl⟩) rfl (by decide) rfl g4 ?_
        exact A_reti hM.1 rfl rfl rfl (hq (h 166 ((w32 9).toNat)) hh)
      replace hh := OK_f hh hc
      refine ⟨fun hc => ?_, fun hc => ?_⟩
      · replace hh := OK_t hh hc
        refine A_blk hM.1 3 (lv1 := [some (aR 150), some (aI v1)]) (s1 := [aI 10, aR 166]) (h1 := h) rfl ?_
        obtain ⟨g5, hh⟩ := OK_g hh
        refine A_ald hM.1 rfl (Or.inl ⟨rfl, rfl⟩) rfl (by decide) rfl g5 ?_
        exact A_reti hM.1 rfl rfl rfl (hq (h 166 ((w32 10).toNat)) hh)
      replace hh := OK_f hh hc
      refine ⟨fun hc => ?_, fun hc => ?_⟩
      · replace hh := OK_t hh hc
        refine A_blk hM.1 2 (lv1 := [some (aR 150), some (aI v1)]) (s1 := [aI (h 150 75)]) (h1 := h) rfl ?_
        exact A_reti hM.1 rfl rfl rfl (hq (h 150 75) hh)
      replace hh := OK_f hh hc
      refine A_blk hM.1 1 (lv1 := [some (aR 150), some (aI v1)]) (s1 := [aI (-1)]) (h1 := h) rfl ?_
      exact A_reti hM.1 rfl rfl rfl (hq (-1) hh)
    · replace hh := OK_f hh hc
      refine A_blk hM.1 5 (lv1 := [some (aR 150), some (aI v1)]) (s1 := [aI (v1 - 20), aR 156]) (h1 := h) rfl ?_
      obtain ⟨g6, hh⟩ := OK_g hh
      refine A_ald hM.1 rfl (Or.inl ⟨rfl, rfl⟩) rfl (by decide) rfl g6 ?_
      exact A_reti hM.1 rfl rfl rfl (hq (h 156 ((w32 (v1 - 20)).toNat)) hh)
  · replace hh := OK_f hh hc
    refine A_blk hM.1 5 (lv1 := [some (aR 150), some (aI v1)]) (s1 := [aI (v1 - 10), aR 166]) (h1 := h) rfl ?_
    obtain ⟨g7, hh⟩ := OK_g hh
    refine A_ald hM.1 rfl (Or.inl ⟨rfl, rfl⟩) rfl (by decide) rfl g7 ?_
    exact A_reti hM.1 rfl rfl rfl (hq (h 166 ((w32 (v1 - 10)).toNat)) hh)

set_option maxRecDepth 20000 in
set_option maxHeartbeats 4000000 in
theorem ct_X12_count {G : Gx} (v1 : Int) (h : Hp)   {P : Int → Prop} (hh : OK (X12_count v1 h) P) : CT G yX12_count M_X12_count 3 0 0 FN h [aR 150, aI v1] (fun r F' h' => F' = FN ∧ ∃ z, r = some (aI z) ∧ h' = h ∧ P z) :=
  CT.of (by decide +kernel) rfl (Nat.le_of_ble_eq_true rfl) k_X12_count fun k0 _ _ hM => c_X12_count hM v1 h (fun z hz => ⟨rfl, z, rfl, rfl, hz⟩) hh

