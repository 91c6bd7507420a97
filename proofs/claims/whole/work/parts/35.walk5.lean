set_option linter.all false
theorem mi_X1_common : MIv yX1_common M_X1_common 2 := ⟨⟨(mem_GW 1075 (by decide +kernel) rfl), (mem_GW 129 (by decide +kernel) rfl), by decide +kernel, by decide +kernel, by decide +kernel, by decide⟩, (mem_GW 1073 (by decide +kernel) rfl), (mem_GW 1074 (by decide +kernel) rfl)⟩
set_option maxRecDepth 20000 in
set_option maxHeartbeats 4000000 in
theorem c_X1_common_j84 {k0 : K0} {G : Gx} {Qp : Option AV → Fx → Hp → Prop} (hM : MB (KM k0 0 0 Qp) G M_X1_common 4) (v1 : Int) (v2 : Int) (v3 : Int) (v4 : Int) (v6 : Int) (v7 : Int) (v8 : Int) (v9 : Int) (v10 : Int) (v11 : Int) (v12 : Int) (h : Hp)   {P : ((Int × Int × Int × Int × Hp) ⊕ (Int × Int × Int × Hp)) → Prop} (hin : ∀ y : Int × Int × Int × Int × Hp, P (.inl y) → ATk (KM k0 0 0 Qp) FN 0 0 M_X1_common 39 [some (aR 53), some (aI v1), some (aI v2), some (aI v3), some (aI v4), none, some (aI v6), some (aI v7), some (aI v8), some (aI y.1), some (aI y.2.1), some (aI y.2.2.1), some (aI y.2.2.2.1), none, none] [] y.2.2.2.2) (hout0 : ∀ y : Int × Int × Int × Hp, P (.inr y) → ATk (KM k0 0 0 Qp) FN 0 0 M_X1_common 86 [some (aR 53), some (aI v1), some (aI v2), some (aI v3), some (aI v4), none, none, some (aI v7), some (aI v8), some (aI y.1), some (aI y.2.1), some (aI y.2.2.1), none, none, none] [] y.2.2.2) (hh : OK (X1_common_j84 v1 v2 v3 v4 v6 v7 v8 v9 v10 v11 v12 h) P) : ATk (KM k0 0 0 Qp) FN 0 0 M_X1_common 84 [some (aR 53), some (aI v1), some (aI v2), some (aI v3), some (aI v4), none, some (aI v6), some (aI v7), some (aI v8), some (aI v9), some (aI v10), some (aI v11), some (aI v12), none, none] [] h := by
  unfold X1_common_j84 at hh
  refine A_blk hM.1 1 (lv1 := [some (aR 53), some (aI v1), some (aI v2), some (aI v3), some (aI v4), none, some (aI v6), some (aI v7), some (aI v8), some (aI v9), some (aI v10), some (aI v11), some (aI (v12 + 1)), none, none]) (s1 := []) (h1 := h) rfl ?_
  refine A_go hM.1 rfl rfl ?_
  exact hin (v9, v10, v11, v12 + 1, h) hh

set_option maxRecDepth 20000 in
set_option maxHeartbeats 4000000 in
theorem c_X1_common_l39 {k0 : K0} {G : Gx} {Qp : Option AV → Fx → Hp → Prop} (hM : MB (KM k0 0 0 Qp) G M_X1_common 4) (v1 : Int) (v2 : Int) (v3 : Int) (v4 : Int) (v6 : Int) (v7 : Int) (v8 : Int) (x : Int × Int × Int × Int × Hp)   {P : ((Int × Int × Int × Int × Hp) ⊕ (Int × Int × Int × Hp)) → Prop} (hin : ∀ y : Int × Int × Int × Int × Hp, P (.inl y) → ATk (KM k0 0 0 Qp) FN 0 0 M_X1_common 39 [some (aR 53), some (aI v1), some (aI v2), some (aI v3), some (aI v4), none, some (aI v6), some (aI v7), some (aI v8), some (aI y.1), some (aI y.2.1), some (aI y.2.2.1), some (aI y.2.2.2.1), none, none] [] y.2.2.2.2) (hout0 : ∀ y : Int × Int × Int × Hp, P (.inr y) → ATk (KM k0 0 0 Qp) FN 0 0 M_X1_common 86 [some (aR 53), some (aI v1), some (aI v2), some (aI v3), some (aI v4), none, none, some (aI v7), some (aI v8), some (aI y.1), some (aI y.2.1), some (aI y.2.2.1), none, none, none] [] y.2.2.2) (hh : OK (X1_common_l39 v1 v2 v3 v4 v6 v7 v8 x) P) : ATk (KM k0 0 0 Qp) FN 0 0 M_X1_common 39 [some (aR 53), some (aI v1), some (aI v2), some (aI v3), some (aI v4), none, some (aI v6), some (aI v7), some (aI v8), some (aI x.1), some (aI x.2.1), some (aI x.2.2.1), some (aI x.2.2.2.1), none, none] [] x.2.2.2.2 := by
  unfold X1_common_l39 at hh
  refine A_blk hM.1 2 (lv1 := [some (aR 53), some (aI v1), some (aI v2), some (aI v3), some (aI v4), none, some (aI v6), some (aI v7), some (aI v8), some (aI x.1), some (aI x.2.1), some (aI x.2.2.1), some (aI x.2.2.2.1), none, none]) (s1 := [aI v3, aI x.2.2.2.1]) (h1 := x.2.2.2.2) rfl ?_
  refine A_icmp hM.1 rfl rfl (fun hc => ?_) (fun hc => ?_)
  · replace hh := OK_t hh hc
    refine A_mask [true, true, true, true, true, true, false, true, true, true, true, true, false, true, true] (lv1 := [some (aR 53), some (aI v1), some (aI v2), some (aI v3), some (aI v4), none, none, some (aI v7), some (aI v8), some (aI x.1), some (aI x.2.1), some (aI x.2.2.1), none, none, none]) rfl ?_
    exact hout0 (x.1, x.2.1, x.2.2.1, x.2.2.2.2) hh
  · replace hh := OK_f hh hc
    refine A_blk hM.1 4 (lv1 := [some (aR 53), some (aI v1), some (aI v2), some (aI v3), some (aI v4), none, some (aI v6), some (aI v7), some (aI v8), some (aI x.1), some (aI x.2.1), some (aI x.2.2.1), some (aI x.2.2.2.1), none, none]) (s1 := [aI x.2.2.2.1, aI v1, aR 3]) (h1 := x.2.2.2.2) rfl ?_
    refine A_callV hM rfl rfl (mem_GW 1024 (by decide +kernel) rfl) mi_X7_bitWord (As := [aI v1, aI x.2.2.2.1]) (rest := []) (ct_X7_bitWord v1 x.2.2.2.1 x.2.2.2.2 (OK_bind hh)) (by decide) ⟨Nat.zero_le _, Nat.zero_le _⟩ rfl rfl (Nat.le_of_ble_eq_true rfl) (by decide) rfl (by decide) rfl (fun r F' h' hq1 => ?_)
    obtain ⟨rfl, r5, rfl, e9, hh⟩ := hq1
    subst h'
    refine A_blk hM.1 5 (lv1 := [some (aR 53), some (aI v1), some (aI v2), some (aI v3), some (aI v4), none, some (aI v6), some (aI v7), some (aI v8), some (aI x.1), some (aI x.2.1), some (aI x.2.2.1), some (aI x.2.2.2.1), some (aI r5), none]) (s1 := [aI v6, aI r5, aI v2, aR 53]) (h1 := x.2.2.2.2) rfl ?_
    refine A_callV hM rfl rfl (mem_GW 1085 (by decide +kernel) rfl) mi_X1_firstOf (As := [aI v2, aI r5, aI v6]) (rest := []) (ct_X1_firstOf v2 r5 v6 x.2.2.2.2 (OK_bind hh)) (by decide) ⟨Nat.zero_le _, Nat.zero_le _⟩ rfl rfl (Nat.le_of_ble_eq_true rfl) (by decide) rfl (by decide) rfl (fun r F' h' hq1 => ?_)
    obtain ⟨rfl, r6, rfl, e9, hh⟩ := hq1
    subst h'
    refine A_blk hM.1 3 (lv1 := [some (aR 53), some (aI v1), some (aI v2), some (aI v3), some (aI v4), none, some (aI v6), some (aI v7), some (aI v8), some (aI x.1), some (aI x.2.1), some (aI x.2.2.1), some (aI x.2.2.2.1), some (aI r5), some (aI r6)]) (s1 := [aI x.1, aI r5]) (h1 := x.2.2.2.2) rfl ?_
    refine A_icmp hM.1 rfl rfl (fun hc => ?_) (fun hc => ?_)
    · replace hh := OK_t hh hc
      refine A_mask [true, true, true, true, true, true, true, true, true, true, true, true, true, false, false] (lv1 := [some (aR 53), some (aI v1), some (aI v2), some (aI v3), some (aI v4), none, some (aI v6), some (aI v7), some (aI v8), some (aI x.1), some (aI x.2.1), some (aI x.2.2.1), some (aI x.2.2.2.1), none, none]) rfl ?_
      exact c_X1_common_j84 hM v1 v2 v3 v4 v6 v7 v8 x.1 x.2.1 x.2.2.1 x.2.2.2.1 x.2.2.2.2 hin hout0 hh
    · replace hh := OK_f hh hc
      refine A_blk hM.1 2 (lv1 := [some (aR 53), some (aI v1), some (aI v2), some (aI v3), some (aI v4), none, some (aI v6), some (aI v7), some (aI v8), some (aI x.1), some (aI x.2.1), some (aI x.2.2.1), some (aI x.2.2.2.1), some (aI r5), some (aI r6)]) (s1 := [aI v4, aI r6]) (h1 := x.2.2.2.2) rfl ?_
      refine A_icmp hM.1 rfl rfl (fun hc => ?_) (fun hc => ?_)
      · replace hh := OK_t hh hc
        refine A_mask [true, true, true, true, true, true, true, true, true, true, true, true, true, false, false] (lv1 := [some (aR 53), some (aI v1), some (aI v2), some (aI v3), some (aI v4), none, some (aI v6), some (aI v7), some (aI v8), some (aI x.1), some (aI x.2.1), some (aI x.2.2.1), some (aI x.2.2.2.1), none, none]) rfl ?_
        exact c_X1_common_j84 hM v1 v2 v3 v4 v6 v7 v8 x.1 x.2.1 x.2.2.1 x.2.2.2.1 x.2.2.2.2 hin hout0 hh
      · replace hh := OK_f hh hc
        refine A_blk hM.1 7 (lv1 := [some (aR 53), some (aI v1), some (aI v2), some (aI v3), some (aI v4), none, some (aI v6), some (aI v7), some (aI v8), some (aI x.1), some (aI x.2.1), some (aI x.2.2.1), some (aI x.2.2.2.1), some (aI r5), some (aI r6)]) (s1 := [aI (r6 + 1), aI (x.2.2.2.1 + 1), aR 53]) (h1 := x.2.2.2.2) rfl ?_
        refine A_callV hM rfl rfl (mem_GW 1080 (by decide +kernel) rfl) mi_X1_tail (As := [aI (x.2.2.2.1 + 1), aI (r6 + 1)]) (rest := []) (ct_X1_tail (x.2.2.2.1 + 1) (r6 + 1) x.2.2.2.2 (OK_bind hh)) (by decide) ⟨Nat.zero_le _, Nat.zero_le _⟩ rfl rfl (Nat.le_of_ble_eq_true rfl) (by decide) rfl (by decide) rfl (fun r F' h' hq1 => ?_)
        obtain ⟨rfl, r7, rfl, e9, hh⟩ := hq1
        subst h'
        refine A_blk hM.1 5 (lv1 := [some (aR 53), some (aI v1), some (aI v2), some (aI v3), some (aI v4), none, some (aI v6), some (aI v7), some (aI v8), some (aI x.1), some (aI x.2.1), some (aI x.2.2.1), some (aI x.2.2.2.1), some (aI r5), some (aI r6)]) (s1 := [aI ((v7 - v8) - 1), aI r7]) (h1 := x.2.2.2.2) rfl ?_
        refine A_icmp hM.1 rfl rfl (fun hc => ?_) (fun hc => ?_)
        · replace hh := OK_t hh hc
          refine A_mask [true, true, true, true, true, true, true, true, true, true, true, true, true, false, false] (lv1 := [some (aR 53), some (aI v1), some (aI v2), some (aI v3), some (aI v4), none, some (aI v6), some (aI v7), some (aI v8), some (aI x.1), some (aI x.2.1), some (aI x.2.2.1), some (aI x.2.2.2.1), none, none]) rfl ?_
          exact c_X1_common_j84 hM v1 v2 v3 v4 v6 v7 v8 x.1 x.2.1 x.2.2.1 x.2.2.2.1 x.2.2.2.2 hin hout0 hh
        · replace hh := OK_f hh hc
          refine A_blk hM.1 10 (lv1 := [some (aR 53), some (aI v1), some (aI v2), some (aI v3), some (aI v4), none, some (aI v6), some (aI v7), some (aI v8), some (aI r5), some (aI (x.2.2.2.1 + 1)), some (aI (r6 + 1)), some (aI x.2.2.2.1), some (aI r5), some (aI r6)]) (s1 := []) (h1 := x.2.2.2.2) rfl ?_
          refine A_mask [true, true, true, true, true, true, true, true, true, true, true, true, true, false, false] (lv1 := [some (aR 53), some (aI v1), some (aI v2), some (aI v3), some (aI v4), none, some (aI v6), some (aI v7), some (aI v8), some (aI r5), some (aI (x.2.2.2.1 + 1)), some (aI (r6 + 1)), some (aI x.2.2.2.1), none, none]) rfl ?_
          exact c_X1_common_j84 hM v1 v2 v3 v4 v6 v7 v8 r5 (x.2.2.2.1 + 1) (r6 + 1) x.2.2.2.1 x.2.2.2.2 hin hout0 hh

set_option maxRecDepth 20000 in
set_option maxHeartbeats 4000000 in
theorem c_X1_common_l25 {k0 : K0} {G : Gx} {Qp : Option AV → Fx → Hp → Prop} (hM : MB (KM k0 0 0 Qp) G M_X1_common 4) (v1 : Int) (v2 : Int) (v3 : Int) (v4 : Int) (v7 : Int) (x : Int × Int × Int × Hp)   {P : ((Int × Int × Int × Hp) ⊕ (Hp)) → Prop} (hin : ∀ y : Int × Int × Int × Hp, P (.inl y) → ATk (KM k0 0 0 Qp) FN 0 0 M_X1_common 25 [some (aR 53), some (aI v1), some (aI v2), some (aI v3), some (aI v4), some (aI y.1), some (aI y.2.1), some (aI v7), some (aI y.2.2.1), none, none, none, none, none, none] [] y.2.2.2) (hout0 : ∀ y : Hp, P (.inr y) → ATk (KM k0 0 0 Qp) FN 0 0 M_X1_common 97 [none, none, none, none, none, none, none, some (aI v7), none, none, none, none, none, none, none] [] y) (hh : OK (X1_common_l25 v1 v2 v3 v4 v7 x) P) : ATk (KM k0 0 0 Qp) FN 0 0 M_X1_common 25 [some (aR 53), some (aI v1), some (aI v2), some (aI v3), some (aI v4), some (aI x.1), some (aI x.2.1), some (aI v7), some (aI x.2.2.1), none, none, none, none, none, none] [] x.2.2.2 := by
  unfold X1_common_l25 at hh
  refine A_blk hM.1 2 (lv1 := [some (aR 53), some (aI v1), some (aI v2), some (aI v3), some (aI v4), some (aI x.1), some (aI x.2.1), some (aI v7), some (aI x.2.2.1), none, none, none, none, none, none]) (s1 := [aI v7, aI x.2.2.1]) (h1 := x.2.2.2) rfl ?_
  refine A_icmp hM.1 rfl rfl (fun hc => ?_) (fun hc => ?_)
  · replace hh := OK_t hh hc
    refine A_mask [false, false, false, false, false, false, false, true, false, true, true, true, true, true, true] (lv1 := [none, none, none, none, none, none, none, some (aI v7), none, none, none, none, none, none, none]) rfl ?_
    exact hout0 x.2.2.2 hh
  · replace hh := OK_f hh hc
    refine A_blk hM.1 2 (lv1 := [some (aR 53), some (aI v1), some (aI v2), some (aI v3), some (aI v4), some (aI x.1), some (aI x.2.1), some (aI v7), some (aI x.2.2.1), none, none, none, none, none, none]) (s1 := [aI 8, aI x.2.2.1]) (h1 := x.2.2.2) rfl ?_
    refine A_icmp hM.1 rfl rfl (fun hc => ?_) (fun hc => ?_)
    · replace hh := OK_t hh hc
      refine A_mask [false, false, false, false, false, false, false, true, false, true, true, true, true, true, true] (lv1 := [none, none, none, none, none, none, none, some (aI v7), none, none, none, none, none, none, none]) rfl ?_
      exact hout0 x.2.2.2 hh
    · replace hh := OK_f hh hc
      refine A_blk hM.1 8 (lv1 := [some (aR 53), some (aI v1), some (aI v2), some (aI v3), some (aI v4), some (aI x.1), some (aI x.2.1), some (aI v7), some (aI x.2.2.1), some (aI 64), some (aI x.1), some (aI x.2.1), some (aI x.1), none, none]) (s1 := []) (h1 := x.2.2.2) rfl ?_
      refine A_mask [true, true, true, true, true, false, true, true, true, true, true, true, true, true, true] (lv1 := [some (aR 53), some (aI v1), some (aI v2), some (aI v3), some (aI v4), none, some (aI x.2.1), some (aI v7), some (aI x.2.2.1), some (aI 64), some (aI x.1), some (aI x.2.1), some (aI x.1), none, none]) rfl ?_
      refine iter_ok (s := (64, x.1, x.2.1, x.1, x.2.2.2)) (Gp := fun z => ATk (KM k0 0 0 Qp) FN 0 0 M_X1_common 39 [some (aR 53), some (aI v1), some (aI v2), some (aI v3), some (aI v4), none, some (aI x.2.1), some (aI v7), some (aI x.2.2.1), some (aI z.1), some (aI z.2.1), some (aI z.2.2.1), some (aI z.2.2.2.1), none, none] [] z.2.2.2.2) (E := fun z => ATk (KM k0 0 0 Qp) FN 0 0 M_X1_common 86 [some (aR 53), some (aI v1), some (aI v2), some (aI v3), some (aI v4), none, none, some (aI v7), some (aI x.2.2.1), some (aI z.1), some (aI z.2.1), some (aI z.2.2.1), none, none, none] [] z.2.2.2) (fun z P1 g1 g2 g3 => c_X1_common_l39 hM v1 v2 v3 v4 x.2.1 v7 x.2.2.1 z g2 g3 g1) (OK_bind hh) (fun x8 hh => ?_)
      refine A_blk hM.1 4 (lv1 := [some (aR 53), some (aI v1), some (aI v2), some (aI v3), some (aI v4), none, none, some (aI v7), some (aI x.2.2.1), some (aI x8.1), some (aI x8.2.1), some (aI x8.2.2.1), none, none, none]) (s1 := [aI x8.1, aI x.2.2.1, aR 60]) (h1 := x8.2.2.2) rfl ?_
      obtain ⟨g9, hh⟩ := OK_g hh
      refine A_ast hM.1 rfl (Or.inl ⟨rfl, rfl, rfl⟩) rfl rfl rfl g9 ?_
      refine A_blk hM.1 5 (lv1 := [some (aR 53), some (aI v1), some (aI v2), some (aI v3), some (aI v4), some (aI x8.2.1), some (aI x8.2.2.1), some (aI v7), some (aI (x.2.2.1 + 1)), some (aI x8.1), some (aI x8.2.1), some (aI x8.2.2.1), none, none, none]) (s1 := []) (h1 := setH x8.2.2.2 60 ((w32 x.2.2.1).toNat) x8.1) rfl ?_
      refine A_go hM.1 rfl rfl ?_
      refine A_mask [true, true, true, true, true, true, true, true, true, false, false, false, true, true, true] (lv1 := [some (aR 53), some (aI v1), some (aI v2), some (aI v3), some (aI v4), some (aI x8.2.1), some (aI x8.2.2.1), some (aI v7), some (aI (x.2.2.1 + 1)), none, none, none, none, none, none]) rfl ?_
      exact hin (x8.2.1, x8.2.2.1, x.2.2.1 + 1, setH x8.2.2.2 60 ((w32 x.2.2.1).toNat) x8.1) hh

set_option maxRecDepth 20000 in
set_option maxHeartbeats 4000000 in
theorem c_X1_common {k0 : K0} {G : Gx} {Qp : Option AV → Fx → Hp → Prop} (hM : MB (KM k0 0 0 Qp) G M_X1_common 4) (v1 : Int) (v2 : Int) (h : Hp)   {P : (Int × Hp) → Prop} (hq : ∀ z : Int × Hp, P z → Qp (some (aI z.1)) FN z.2) (hh : OK (X1_common v1 v2 h) P) : ATk (KM k0 0 0 Qp) FN 0 0 M_X1_common 0 [some (aR 53), some (aI v1), some (aI v2), none, none, none, none, none, none, none, none, none, none, none, none] [] h := by
  unfold X1_common at hh
  refine A_blk hM.1 3 (lv1 := [some (aR 53), some (aI v1), some (aI v2), none, none, none, none, none, none, none, none, none, none, none, none]) (s1 := [aI v1, aR 3]) (h1 := h) rfl ?_
  refine A_callV hM rfl rfl (mem_GW 1019 (by decide +kernel) rfl) mi_X7_bitSize (As := [aI v1]) (rest := []) (ct_X7_bitSize v1 h (OK_bind hh)) (by decide) ⟨Nat.zero_le _, Nat.zero_le _⟩ rfl rfl (Nat.le_of_ble_eq_true rfl) (by decide) rfl (by decide) rfl (fun r F' h' hq1 => ?_)
  obtain ⟨rfl, r1, rfl, e9, hh⟩ := hq1
  subst h'
  refine A_blk hM.1 4 (lv1 := [some (aR 53), some (aI v1), some (aI v2), some (aI r1), none, none, none, none, none, none, none, none, none, none, none]) (s1 := [aI v2, aR 3]) (h1 := h) rfl ?_
  refine A_callV hM rfl rfl (mem_GW 1019 (by decide +kernel) rfl) mi_X7_bitSize (As := [aI v2]) (rest := []) (ct_X7_bitSize v2 h (OK_bind hh)) (by decide) ⟨Nat.zero_le _, Nat.zero_le _⟩ rfl rfl (Nat.le_of_ble_eq_true rfl) (by decide) rfl (by decide) rfl (fun r F' h' hq1 => ?_)
  obtain ⟨rfl, r2, rfl, e9, hh⟩ := hq1
  subst h'
  refine A_blk hM.1 4 (lv1 := [some (aR 53), some (aI v1), some (aI v2), some (aI r1), some (aI r2), none, none, none, none, none, none, none, none, none, none]) (s1 := [aI v2, aI v1, aR 53]) (h1 := h) rfl ?_
  refine A_callV hM rfl rfl (mem_GW 1076 (by decide +kernel) rfl) mi_X1_fillTails (As := [aI v1, aI v2]) (rest := []) (ct_X1_fillTails v1 v2 h (OK_bind hh)) (by decide) ⟨Nat.zero_le _, Nat.zero_le _⟩ rfl rfl (Nat.le_of_ble_eq_true rfl) (by decide) rfl (by decide) rfl (fun r F' h' hq1 => ?_)
  obtain ⟨rfl, rfl, hh⟩ := hq1
  obtain ⟨r3, rfl⟩ : ∃ z, z = h' := ⟨_, rfl⟩
  refine A_blk hM.1 7 (lv1 := [some (aR 53), some (aI v1), some (aI v2), some (aI r1), some (aI r2), some (aI 0), some (aI 0), none, none, none, none, none, none, none, none]) (s1 := [aI 0, aR 59]) (h1 := r3) rfl ?_
  refine A_callSN (host := "QuotedBooks") hM rfl rfl (mem_NW 1030 (by decide +kernel) rfl) mi_X11_at ms_X11_at (As := [aR 59, aI 0]) (rest := []) (ct_X11_at 59 81 0 r3 rfl rfl (OK_bind hh)) (by decide) ⟨Nat.zero_le _, Nat.zero_le _⟩ rfl rfl (Nat.le_of_ble_eq_true rfl) (fun r F' h' hq1 => ?_)
  obtain ⟨rfl, r4, rfl, e9, hh⟩ := hq1
  subst h'
  refine A_blk hM.1 3 (lv1 := [some (aR 53), some (aI v1), some (aI v2), some (aI r1), some (aI r2), some (aI 0), some (aI 0), some (aI r4), some (aI 0), none, none, none, none, none, none]) (s1 := []) (h1 := r3) rfl ?_
  refine iter_ok (s := (0, 0, 0, r3)) (Gp := fun z => ATk (KM k0 0 0 Qp) FN 0 0 M_X1_common 25 [some (aR 53), some (aI v1), some (aI v2), some (aI r1), some (aI r2), some (aI z.1), some (aI z.2.1), some (aI r4), some (aI z.2.2.1), none, none, none, none, none, none] [] z.2.2.2) (E := fun z => ATk (KM k0 0 0 Qp) FN 0 0 M_X1_common 97 [none, none, none, none, none, none, none, some (aI r4), none, none, none, none, none, none, none] [] z) (fun z P1 g1 g2 g3 => c_X1_common_l25 hM v1 v2 r1 r2 r4 z g2 g3 g1) (OK_bind hh) (fun x10 hh => ?_)
  refine A_blk hM.1 1 (lv1 := [none, none, none, none, none, none, none, some (aI r4), none, none, none, none, none, none, none]) (s1 := [aI r4]) (h1 := x10) rfl ?_
  exact A_reti hM.1 rfl rfl rfl (hq (r4, x10) hh)

set_option maxRecDepth 20000 in
set_option maxHeartbeats 4000000 in
theorem ct_X1_common {G : Gx} (v1 : Int) (v2 : Int) (h : Hp)   {P : (Int × Hp) → Prop} (hh : OK (X1_common v1 v2 h) P) : CT G yX1_common M_X1_common 4 0 0 FN h [aR 53, aI v1, aI v2] (fun r F' h' => F' = FN ∧ ∃ z, r = some (aI z.1) ∧ h' = z.2 ∧ P z) :=
  CT.of (by decide +kernel) rfl (Nat.le_of_ble_eq_true rfl) k_X1_common fun k0 _ _ hM => c_X1_common hM v1 v2 h (fun z hz => ⟨rfl, z, rfl, rfl, hz⟩) hh

theorem mi_X1_commonWord : MIv yX1_commonWord M_X1_commonWord 1 := ⟨⟨(mem_GW 1092 (by decide +kernel) rfl), (mem_GW 129 (by decide +kernel) rfl), by decide +kernel, by decide +kernel, by decide +kernel, by decide⟩, (mem_GW 1090 (by decide +kernel) rfl), (mem_GW 1091 (by decide +kernel) rfl)⟩
set_option maxRecDepth 20000 in
set_option maxHeartbeats 4000000 in
theorem c_X1_commonWord {k0 : K0} {G : Gx} {Qp : Option AV → Fx → Hp → Prop} (hM : MB (KM k0 0 0 Qp) G M_X1_commonWord 2) (v1 : Int) (h : Hp)   {P : Int → Prop} (hq : ∀ z : Int, P z → Qp (some (aI z)) FN h) (hh : OK (X1_commonWord v1 h) P) : ATk (KM k0 0 0 Qp) FN 0 0 M_X1_commonWord 0 [some (aR 53), some (aI v1)] [] h := by
  unfold X1_commonWord at hh
  refine A_blk hM.1 3 (lv1 := [some (aR 53), some (aI v1)]) (s1 := [aI v1, aR 60]) (h1 := h) rfl ?_
  refine A_callSN (host := "QuotedBooks") hM rfl rfl (mem_NW 1030 (by decide +kernel) rfl) mi_X11_at ms_X11_at (As := [aR 60, aI v1]) (rest := []) (ct_X11_at 60 8 v1 h rfl rfl (OK_bind hh)) (by decide) ⟨Nat.zero_le _, Nat.zero_le _⟩ rfl rfl (Nat.le_of_ble_eq_true rfl) (fun r F' h' hq1 => ?_)
  obtain ⟨rfl, r1, rfl, e9, hh⟩ := hq1
  subst h'
  exact A_reti hM.1 rfl rfl rfl (hq r1 hh)

set_option maxRecDepth 20000 in
set_option maxHeartbeats 4000000 in
theorem ct_X1_commonWord {G : Gx} (v1 : Int) (h : Hp)   {P : Int → Prop} (hh : OK (X1_commonWord v1 h) P) : CT G yX1_commonWord M_X1_commonWord 2 0 0 FN h [aR 53, aI v1] (fun r F' h' => F' = FN ∧ ∃ z, r = some (aI z) ∧ h' = h ∧ P z) :=
  CT.of (by decide +kernel) rfl (Nat.le_of_ble_eq_true rfl) k_X1_commonWord fun k0 _ _ hM => c_X1_commonWord hM v1 h (fun z hz => ⟨rfl, z, rfl, rfl, hz⟩) hh

theorem mi_X11_stood : MIv yX11_stood M_X11_stood 3 := ⟨⟨(mem_GW 1071 (by decide +kernel) rfl), (mem_GW 123 (by decide +kernel) rfl), by decide +kernel, by decide +kernel, by decide +kernel, by decide⟩, (mem_GW 1069 (by decide +kernel) rfl), (mem_GW 1070 (by decide +kernel) rfl)⟩
set_option maxRecDepth 20000 in
set_option maxHeartbeats 4000000 in
theorem c_X11_stood {k0 : K0} {G : Gx} {Qp : Option AV → Fx → Hp → Prop} (hM : MB (KM k0 0 0 Qp) G M_X11_stood 5) (v1 : Int) (v2 : Int) (v3 : Int) (h : Hp)   {P : (Int × Hp) → Prop} (hq : ∀ z : Int × Hp, P z → Qp (some (aI z.1)) FN z.2) (hh : OK (X11_stood v1 v2 v3 h) P) : ATk (KM k0 0 0 Qp) FN 0 0 M_X11_stood 0 [some (aR 0), some (aI v1), some (aI v2), some (aI v3), none] [] h := by
  unfold X11_stood at hh
  refine A_blk hM.1 3 (lv1 := [some (aR 0), some (aI v1), some (aI v2), some (aI v3), none]) (s1 := [aI v1, aR 3]) (h1 := h) rfl ?_
  refine A_callV hM rfl rfl (mem_GW 986 (by decide +kernel) rfl) mi_X7_isBit (As := [aI v1]) (rest := []) (ct_X7_isBit v1 h (OK_bind hh)) (by decide) ⟨Nat.zero_le _, Nat.zero_le _⟩ rfl rfl (Nat.le_of_ble_eq_true rfl) (by decide) rfl (by decide) rfl (fun r F' h' hq1 => ?_)
  obtain ⟨rfl, r1, rfl, e9, hh⟩ := hq1
  subst h'
  refine A_ifc hM.1 rfl rfl (fun hc => ?_) (fun hc => ?_)
  · replace hh := OK_t hh hc
    refine A_blk hM.1 1 (lv1 := [some (aR 0), some (aI v1), some (aI v2), some (aI v3), none]) (s1 := [aI (-1)]) (h1 := h) rfl ?_
    exact A_reti hM.1 rfl rfl rfl (hq ((-1), h) hh)
  · replace hh := OK_f hh hc
    refine A_blk hM.1 3 (lv1 := [some (aR 0), some (aI v1), some (aI v2), some (aI v3), none]) (s1 := [aI v2, aR 3]) (h1 := h) rfl ?_
    refine A_callV hM rfl rfl (mem_GW 986 (by decide +kernel) rfl) mi_X7_isBit (As := [aI v2]) (rest := []) (ct_X7_isBit v2 h (OK_bind hh)) (by decide) ⟨Nat.zero_le _, Nat.zero_le _⟩ rfl rfl (Nat.le_of_ble_eq_true rfl) (by decide) rfl (by decide) rfl (fun r F' h' hq1 => ?_)
    obtain ⟨rfl, r2, rfl, e9, hh⟩ := hq1
    subst h'
    refine A_ifc hM.1 rfl rfl (fun hc => ?_) (fun hc => ?_)
    · replace hh := OK_t hh hc
      refine A_blk hM.1 1 (lv1 := [some (aR 0), some (aI v1), some (aI v2), some (aI v3), none]) (s1 := [aI (-1)]) (h1 := h) rfl ?_
      exact A_reti hM.1 rfl rfl rfl (hq ((-1), h) hh)
    · replace hh := OK_f hh hc
      refine A_blk hM.1 2 (lv1 := [some (aR 0), some (aI v1), some (aI v2), some (aI v3), none]) (s1 := [aI (-1), aI v3]) (h1 := h) rfl ?_
      refine A_icmp hM.1 rfl rfl (fun hc => ?_) (fun hc => ?_)
      · replace hh := OK_t hh hc
        refine A_blk hM.1 4 (lv1 := [some (aR 0), some (aI v1), some (aI v2), some (aI v3), none]) (s1 := [aI v2, aI v1, aR 53]) (h1 := h) rfl ?_
        refine A_callV hM rfl rfl (mem_GW 1072 (by decide +kernel) rfl) mi_X1_common (As := [aI v1, aI v2]) (rest := []) (ct_X1_common v1 v2 h (OK_bind hh)) (by decide) ⟨Nat.zero_le _, Nat.zero_le _⟩ rfl rfl (Nat.le_of_ble_eq_true rfl) (by decide) rfl (by decide) rfl (fun r F' h' hq1 => ?_)
        obtain ⟨rfl, r3, rfl, e9, hh⟩ := hq1
        subst h'
        refine A_blk hM.1 3 (lv1 := [some (aR 0), some (aI v1), some (aI v2), some (aI v3), some (aI r3.1)]) (s1 := [aI (-1), aI v3]) (h1 := r3.2) rfl ?_
        refine A_icmp hM.1 rfl rfl (fun hc => ?_) (fun hc => ?_)
        · replace hh := OK_t hh hc
          refine A_blk hM.1 2 (lv1 := [some (aR 0), some (aI v1), some (aI v2), some (aI v3), some (aI r3.1)]) (s1 := [aI r3.1, aI v3]) (h1 := r3.2) rfl ?_
          refine A_icmp hM.1 rfl rfl (fun hc => ?_) (fun hc => ?_)
          · replace hh := OK_t hh hc
            refine A_blk hM.1 1 (lv1 := [some (aR 0), some (aI v1), some (aI v2), some (aI v3), some (aI r3.1)]) (s1 := [aI (-2)]) (h1 := r3.2) rfl ?_
            exact A_reti hM.1 rfl rfl rfl (hq ((-2), r3.2) hh)
          · replace hh := OK_f hh hc
            refine A_blk hM.1 3 (lv1 := [some (aR 0), some (aI v1), some (aI v2), some (aI v3), some (aI r3.1)]) (s1 := [aI v3, aR 53]) (h1 := r3.2) rfl ?_
            refine A_callV hM rfl rfl (mem_GW 1089 (by decide +kernel) rfl) mi_X1_commonWord (As := [aI v3]) (rest := []) (ct_X1_commonWord v3 r3.2 (OK_bind hh)) (by decide) ⟨Nat.zero_le _, Nat.zero_le _⟩ rfl rfl (Nat.le_of_ble_eq_true rfl) (by decide) rfl (by decide) rfl (fun r F' h' hq1 => ?_)
            obtain ⟨rfl, r4, rfl, e9, hh⟩ := hq1
            subst h'
            refine A_go hM.1 rfl rfl ?_
            exact A_reti hM.1 rfl rfl rfl (hq (r4, r3.2) hh)
        · replace hh := OK_f hh hc
          refine A_blk hM.1 1 (lv1 := [some (aR 0), some (aI v1), some (aI v2), some (aI v3), some (aI r3.1)]) (s1 := [aI r3.1]) (h1 := r3.2) rfl ?_
          exact A_reti hM.1 rfl rfl rfl (hq (r3.1, r3.2) hh)
      · replace hh := OK_f hh hc
        refine A_blk hM.1 1 (lv1 := [some (aR 0), some (aI v1), some (aI v2), some (aI v3), none]) (s1 := [aI (-1)]) (h1 := h) rfl ?_
        exact A_reti hM.1 rfl rfl rfl (hq ((-1), h) hh)

set_option maxRecDepth 20000 in
set_option maxHeartbeats 4000000 in
theorem ct_X11_stood {G : Gx} (v1 : Int) (v2 : Int) (v3 : Int) (h : Hp)   {P : (Int × Hp) → Prop} (hh : OK (X11_stood v1 v2 v3 h) P) : CT G yX11_stood M_X11_stood 5 0 0 FN h [aR 0, aI v1, aI v2, aI v3] (fun r F' h' => F' = FN ∧ ∃ z, r = some (aI z.1) ∧ h' = z.2 ∧ P z) :=
  CT.of (by decide +kernel) rfl (Nat.le_of_ble_eq_true rfl) k_X11_stood fun k0 _ _ hM => c_X11_stood hM v1 v2 v3 h (fun z hz => ⟨rfl, z, rfl, rfl, hz⟩) hh

theorem mi_X8_others : MIv yX8_others M_X8_others 3 := ⟨⟨(mem_GW 1119 (by decide +kernel) rfl), (mem_GW 131 (by decide +kernel) rfl), by decide +kernel, by decide +kernel, by decide +kernel, by decide⟩, (mem_GW 1118 (by decide +kernel) rfl), (mem_GW 32 (by decide +kernel) rfl)⟩
set_option maxRecDepth 20000 in
set_option maxHeartbeats 4000000 in
theorem c_X8_others_j24 {k0 : K0} {G : Gx} {Qp : Option AV → Fx → Hp → Prop} (hM : MB (KM k0 0 0 Qp) G M_X8_others 3) (s : Nat) (v1 : Int) (v2 : Int) (v3 : Int) (v4 : Int) (v5 : Int) (h : Hp)  (ht : s ∈ spL) {P : ((Int × Int) ⊕ (Int)) → Prop} (hin : ∀ y : Int × Int, P (.inl y) → ATk (KM k0 0 0 Qp) FN 0 0 M_X8_others 4 [some (aR s), some (aI v1), some (aI v2), some (aI v3), some (aI y.1), some (aI y.2)] [] h) (hout0 : ∀ y : Int, P (.inr y) → ATk (KM k0 0 0 Qp) FN 0 0 M_X8_others 26 [none, none, none, none, some (aI y), none] [] h) (hh : OK (X8_others_j24 s v1 v2 v3 v4 v5 h) P) : ATk (KM k0 0 0 Qp) FN 0 0 M_X8_others 24 [some (aR s), some (aI v1), some (aI v2), some (aI v3), some (aI v4), some (aI v5)] [] h := by
  unfold X8_others_j24 at hh
  refine A_blk hM.1 1 (lv1 := [some (aR s), some (aI v1), some (aI v2), some (aI v3), some (aI v4), some (aI (v5 + 1))]) (s1 := []) (h1 := h) rfl ?_
  refine A_go hM.1 rfl rfl ?_
  exact hin (v4, v5 + 1) hh

set_option maxRecDepth 20000 in
set_option maxHeartbeats 4000000 in
theorem c_X8_others_l4 {k0 : K0} {G : Gx} {Qp : Option AV → Fx → Hp → Prop} (hM : MB (KM k0 0 0 Qp) G M_X8_others 3) (s : Nat) (v1 : Int) (v2 : Int) (v3 : Int) (h : Hp) (x : Int × Int)  (ht : s ∈ spL) {P : ((Int × Int) ⊕ (Int)) → Prop} (hin : ∀ y : Int × Int, P (.inl y) → ATk (KM k0 0 0 Qp) FN 0 0 M_X8_others 4 [some (aR s), some (aI v1), some (aI v2), some (aI v3), some (aI y.1), some (aI y.2)] [] h) (hout0 : ∀ y : Int, P (.inr y) → ATk (KM k0 0 0 Qp) FN 0 0 M_X8_others 26 [none, none, none, none, some (aI y), none] [] h) (hh : OK (X8_others_l4 s v1 v2 v3 h x) P) : ATk (KM k0 0 0 Qp) FN 0 0 M_X8_others 4 [some (aR s), some (aI v1), some (aI v2), some (aI v3), some (aI x.1), some (aI x.2)] [] h := by
  unfold X8_others_l4 at hh
  refine A_blk hM.1 2 (lv1 := [some (aR s), some (aI v1), some (aI v2), some (aI v3), some (aI x.1), some (aI x.2)]) (s1 := [aR s, aI x.2]) (h1 := h) rfl ?_
  refine A_gr hM.1 rfl rfl rfl (sp_k0 ht) (sp_l0 ht) (by decide) (sp_r0 ht) rfl ?_
  refine A_blk hM.1 1 (lv1 := [some (aR s), some (aI v1), some (aI v2), some (aI v3), some (aI x.1), some (aI x.2)]) (s1 := [aI v1, aR 3, aI x.2]) (h1 := h) rfl ?_
  refine A_callV hM rfl rfl (mem_GW 1114 (by decide +kernel) rfl) mi_X7_bitSize (As := [aI v1]) (rest := [aI x.2]) (ct_X7_bitSize v1 h (OK_bind hh)) (by decide) ⟨Nat.zero_le _, Nat.zero_le _⟩ rfl rfl (Nat.le_of_ble_eq_true rfl) (by decide) rfl (by decide) rfl (fun r F' h' hq1 => ?_)
  obtain ⟨rfl, r1, rfl, e9, hh⟩ := hq1
  subst h'
  refine A_icmp hM.1 rfl rfl (fun hc => ?_) (fun hc => ?_)
  · replace hh := OK_t hh hc
    refine A_mask [false, false, false, false, true, false] (lv1 := [none, none, none, none, some (aI x.1), none]) rfl ?_
    exact hout0 x.1 hh
  · replace hh := OK_f hh hc
    refine A_blk hM.1 1 (lv1 := [some (aR s), some (aI v1), some (aI v2), some (aI v3), some (aI x.1), some (aI x.2)]) (s1 := [aR s]) (h1 := h) rfl ?_
    refine A_gr hM.1 rfl rfl rfl (sp_k0 ht) (sp_l0 ht) (by decide) (sp_r0 ht) rfl ?_
    refine A_blk hM.1 2 (lv1 := [some (aR s), some (aI v1), some (aI v2), some (aI v3), some (aI x.1), some (aI x.2)]) (s1 := [aI x.2, aI v1, aR 3]) (h1 := h) rfl ?_
    refine A_callV hM rfl rfl (mem_GW 1120 (by decide +kernel) rfl) mi_X7_bitWord (As := [aI v1, aI x.2]) (rest := []) (ct_X7_bitWord v1 x.2 h (OK_bind hh)) (by decide) ⟨Nat.zero_le _, Nat.zero_le _⟩ rfl rfl (Nat.le_of_ble_eq_true rfl) (by decide) rfl (by decide) rfl (fun r F' h' hq1 => ?_)
    obtain ⟨rfl, r2, rfl, e9, hh⟩ := hq1
    subst h'
    refine A_blk hM.1 1 (lv1 := [some (aR s), some (aI v1), some (aI v2), some (aI v3), some (aI x.1), some (aI x.2)]) (s1 := [aR s, aI r2]) (h1 := h) rfl ?_
    refine A_gr hM.1 rfl rfl rfl (sp_k0 ht) (sp_l0 ht) (by decide) (sp_r0 ht) rfl ?_
    refine A_blk hM.1 4 (lv1 := [some (aR s), some (aI v1), some (aI v2), some (aI v3), some (aI x.1), some (aI x.2)]) (s1 := [aI (v3 + x.2), aI v2, aR 3, aI r2]) (h1 := h) rfl ?_
    refine A_callV hM rfl rfl (mem_GW 1121 (by decide +kernel) rfl) mi_X7_workWord (As := [aI v2, aI (v3 + x.2)]) (rest := [aI r2]) (ct_X7_workWord v2 (v3 + x.2) h (OK_bind hh)) (by decide) ⟨Nat.zero_le _, Nat.zero_le _⟩ rfl rfl (Nat.le_of_ble_eq_true rfl) (by decide) rfl (by decide) rfl (fun r F' h' hq1 => ?_)
    obtain ⟨rfl, r3, rfl, e9, hh⟩ := hq1
    subst h'
    refine A_icmp hM.1 rfl rfl (fun hc => ?_) (fun hc => ?_)
    · replace hh := OK_t hh hc
      exact c_X8_others_j24 hM s v1 v2 v3 x.1 x.2 h ht hin hout0 hh
    · replace hh := OK_f hh hc
      refine A_blk hM.1 1 (lv1 := [some (aR s), some (aI v1), some (aI v2), some (aI v3), some (aI (x.1 + 1)), some (aI x.2)]) (s1 := []) (h1 := h) rfl ?_
      exact c_X8_others_j24 hM s v1 v2 v3 (x.1 + 1) x.2 h ht hin hout0 hh

set_option maxRecDepth 20000 in
set_option maxHeartbeats 4000000 in
theorem c_X8_others {k0 : K0} {G : Gx} {Qp : Option AV → Fx → Hp → Prop} (hM : MB (KM k0 0 0 Qp) G M_X8_others 3) (s : Nat) (v1 : Int) (v2 : Int) (v3 : Int) (h : Hp)  (ht : s ∈ spL) {P : Int → Prop} (hq : ∀ z : Int, P z → Qp (some (aI z)) FN h) (hh : OK (X8_others s v1 v2 v3 h) P) : ATk (KM k0 0 0 Qp) FN 0 0 M_X8_others 0 [some (aR s), some (aI v1), some (aI v2), some (aI v3), none, none] [] h := by
  unfold X8_others at hh
  refine A_blk hM.1 4 (lv1 := [some (aR s), some (aI v1), some (aI v2), some (aI v3), some (aI 0), some (aI 0)]) (s1 := []) (h1 := h) rfl ?_
  refine iter_ok (s := (0, 0)) (Gp := fun z => ATk (KM k0 0 0 Qp) FN 0 0 M_X8_others 4 [some (aR s), some (aI v1), some (aI v2), some (aI v3), some (aI z.1), some (aI z.2)] [] h) (E := fun z => ATk (KM k0 0 0 Qp) FN 0 0 M_X8_others 26 [none, none, none, none, some (aI z), none] [] h) (fun z P1 g1 g2 g3 => c_X8_others_l4 hM s v1 v2 v3 h z ht g2 g3 g1) (OK_bind hh) (fun x4 hh => ?_)
  refine A_blk hM.1 1 (lv1 := [none, none, none, none, some (aI x4), none]) (s1 := [aI x4]) (h1 := h) rfl ?_
  exact A_reti hM.1 rfl rfl rfl (hq x4 hh)

set_option maxRecDepth 20000 in
set_option maxHeartbeats 4000000 in
theorem ct_X8_others {G : Gx} (s : Nat) (v1 : Int) (v2 : Int) (v3 : Int) (h : Hp)  (ht : s ∈ spL) {P : Int → Prop} (hh : OK (X8_others s v1 v2 v3 h) P) : CT G yX8_others M_X8_others 3 0 0 FN h [aR s, aI v1, aI v2, aI v3] (fun r F' h' => F' = FN ∧ ∃ z, r = some (aI z) ∧ h' = h ∧ P z) :=
  CT.of (by decide +kernel) rfl (Nat.le_of_ble_eq_true rfl) k_X8_others fun k0 _ _ hM => c_X8_others hM s v1 v2 v3 h ht (fun z hz => ⟨rfl, z, rfl, rfl, hz⟩) hh

theorem mi_X8_isIn : MIs yX8_isIn M_X8_isIn 2 := ⟨(mem_GW 1129 (by decide +kernel) rfl), (mem_GW 131 (by decide +kernel) rfl), by decide +kernel, by decide +kernel, by decide +kernel, by decide⟩
theorem ms_X8_isIn : .static yX8_isIn ∈ GW := (mem_GW 1128 (by decide +kernel) rfl)
set_option maxRecDepth 20000 in
set_option maxHeartbeats 4000000 in
theorem c_X8_isIn {k0 : K0} {G : Gx} {Qp : Option AV → Fx → Hp → Prop} (hM : MB (KM k0 0 0 Qp) G M_X8_isIn 1) (v0 : Int) (v2 : Int) (h : Hp)  {P : Int → Prop} (hq : ∀ z : Int, P z → Qp (some (aI z)) FN h) (hh : OK (X8_isIn v0 v2) P) : ATk (KM k0 0 0 Qp) FN 0 0 M_X8_isIn 0 [some (aL v0), none, some (aI v2)] [] h := by
  unfold X8_isIn at hh
  refine A_blk hM.1 1 (lv1 := [some (aL v0), none, some (aI v2)]) (s1 := [aI v2]) (h1 := h) rfl ?_
  refine A_ifc hM.1 rfl rfl (fun hc => ?_) (fun hc => ?_)
  · replace hh := OK_t hh hc
    refine A_blk hM.1 1 (lv1 := [some (aL v0), none, some (aI v2)]) (s1 := [aI 0]) (h1 := h) rfl ?_
    exact A_retz hM.1 rfl rfl rfl (by decide) (hq 0 hh)
  · replace hh := OK_f hh hc
    refine A_blk hM.1 2 (lv1 := [some (aL v0), none, some (aI v2)]) (s1 := [aI 40, aI v2]) (h1 := h) rfl ?_
    refine A_icmp hM.1 rfl rfl (fun hc => ?_) (fun hc => ?_)
    · replace hh := OK_t hh hc
      refine A_blk hM.1 1 (lv1 := [some (aL v0), none, some (aI v2)]) (s1 := [aI 0]) (h1 := h) rfl ?_
      exact A_retz hM.1 rfl rfl rfl (by decide) (hq 0 hh)
    · replace hh := OK_f hh hc
      refine A_blk hM.1 7 (lv1 := [some (aL v0), none, some (aI v2)]) (s1 := [aI (cmp64 (and64 (ushr64 v0 v2) 1) 1)]) (h1 := h) rfl ?_
      refine A_ifc hM.1 rfl rfl (fun hc => ?_) (fun hc => ?_)
      · replace hh := OK_t hh hc
        refine A_blk hM.1 1 (lv1 := [some (aL v0), none, some (aI v2)]) (s1 := [aI 0]) (h1 := h) rfl ?_
        exact A_retz hM.1 rfl rfl rfl (by decide) (hq 0 hh)
      · replace hh := OK_f hh hc
        refine A_blk hM.1 1 (lv1 := [some (aL v0), none, some (aI v2)]) (s1 := [aI 1]) (h1 := h) rfl ?_
        refine A_go hM.1 rfl rfl ?_
        exact A_retz hM.1 rfl rfl rfl (by decide) (hq 1 hh)

set_option maxRecDepth 20000 in
set_option maxHeartbeats 4000000 in
theorem ct_X8_isIn {G : Gx} (v0 : Int) (v2 : Int) (h : Hp)  {P : Int → Prop} (hh : OK (X8_isIn v0 v2) P) : CT G yX8_isIn M_X8_isIn 1 0 0 FN h [aL v0, aI v2] (fun r F' h' => F' = FN ∧ ∃ z, r = some (aI z) ∧ h' = h ∧ P z) :=
  CT.of (by decide +kernel) rfl (Nat.le_of_ble_eq_true rfl) k_X8_isIn fun k0 _ _ hM => c_X8_isIn hM v0 v2 h (fun z hz => ⟨rfl, z, rfl, rfl, hz⟩) hh

theorem mi_X8_has : MIv yX8_has M_X8_has 1 := ⟨⟨(mem_GW 1126 (by decide +kernel) rfl), (mem_GW 131 (by decide +kernel) rfl), by decide +kernel, by decide +kernel, by decide +kernel, by decide⟩, (mem_GW 1125 (by decide +kernel) rfl), (mem_GW 33 (by decide +kernel) rfl)⟩
set_option maxRecDepth 20000 in
set_option maxHeartbeats 4000000 in
theorem c_X8_has {k0 : K0} {G : Gx} {Qp : Option AV → Fx → Hp → Prop} (hM : MB (KM k0 0 0 Qp) G M_X8_has 2) (s : Nat) (v1 : Int) (h : Hp)  (ht : s ∈ spL) {P : Int → Prop} (hq : ∀ z : Int, P z → Qp (some (aI z)) FN h) (hh : OK (X8_has s v1 h) P) : ATk (KM k0 0 0 Qp) FN 0 0 M_X8_has 0 [some (aR s), some (aI v1)] [] h := by
  unfold X8_has at hh
  refine A_blk hM.1 1 (lv1 := [some (aR s), some (aI v1)]) (s1 := [aR s]) (h1 := h) rfl ?_
  refine A_gl hM.1 rfl rfl rfl (sp_k0 ht) (sp_l0 ht) rfl ?_
  refine A_blk hM.1 1 (lv1 := [some (aR s), some (aI v1)]) (s1 := [aI v1, aL (h s 3)]) (h1 := h) rfl ?_
  refine A_callS hM rfl rfl (mem_GW 1127 (by decide +kernel) rfl) mi_X8_isIn ms_X8_isIn (As := [aL (h s 3), aI v1]) (rest := []) (ct_X8_isIn (h s 3) v1 h (OK_bind hh)) (by decide) ⟨Nat.zero_le _, Nat.zero_le _⟩ rfl rfl (Nat.le_of_ble_eq_true rfl) (fun r F' h' hq1 => ?_)
  obtain ⟨rfl, r1, rfl, e9, hh⟩ := hq1
  subst h'
  obtain ⟨hz2, hh⟩ := OK_g hh
  exact A_retz hM.1 rfl rfl rfl hz2 (hq r1 hh)

set_option maxRecDepth 20000 in
set_option maxHeartbeats 4000000 in
theorem ct_X8_has {G : Gx} (s : Nat) (v1 : Int) (h : Hp)  (ht : s ∈ spL) {P : Int → Prop} (hh : OK (X8_has s v1 h) P) : CT G yX8_has M_X8_has 2 0 0 FN h [aR s, aI v1] (fun r F' h' => F' = FN ∧ ∃ z, r = some (aI z) ∧ h' = h ∧ P z) :=
  CT.of (by decide +kernel) rfl (Nat.le_of_ble_eq_true rfl) k_X8_has fun k0 _ _ hM => c_X8_has hM s v1 h ht (fun z hz => ⟨rfl, z, rfl, rfl, hz⟩) hh

theorem mi_X8_addPlace : MIv yX8_addPlace M_X8_addPlace 3 := ⟨⟨(mem_GW 1133 (by decide +kernel) rfl), (mem_GW 131 (by decide +kernel) rfl), by decide +kernel, by decide +kernel, by decide +kernel, by decide⟩, (mem_GW 1132 (by decide +kernel) rfl), (mem_GW 34 (by decide +kernel) rfl)⟩
set_option maxRecDepth 20000 in
set_option maxHeartbeats 4000000 in
theorem c_X8_addPlace {k0 : K0} {G : Gx} {Qp : Option AV → Fx → Hp → Prop} (hM : MB (KM k0 0 0 Qp) G M_X8_addPlace 2) (s : Nat) (v1 : Int) (v2 : Int) (v3 : Int) (h : Hp)  (ht : s ∈ spL) {P : Hp → Prop} (hq : ∀ z : Hp, P z → Qp none FN z) (hh : OK (X8_addPlace s v1 v2 v3 h) P) : ATk (KM k0 0 0 Qp) FN 0 0 M_X8_addPlace 0 [some (aR s), some (aI v1), some (aI v2), some (aI v3)] [] h := by
  unfold X8_addPlace at hh
  refine A_blk hM.1 2 (lv1 := [some (aR s), some (aI v1), some (aI v2), some (aI v3)]) (s1 := [aR s, aR s]) (h1 := h) rfl ?_
  refine A_gl hM.1 rfl rfl rfl (sp_k0 ht) (sp_l0 ht) rfl ?_
  refine A_blk hM.1 4 (lv1 := [some (aR s), some (aI v1), some (aI v2), some (aI v3)]) (s1 := [aL (or64 (h s 3) (shl64 1 v1)), aR s]) (h1 := h) rfl ?_
  refine A_pl hM.1 rfl rfl rfl (sp_k0 ht) (sp_l0 ht) rfl rfl ?_
  refine A_blk hM.1 2 (lv1 := [some (aR s), some (aI v1), some (aI v2), some (aI v3)]) (s1 := [aI v3, aI v2]) (h1 := setH h s 3 (or64 (h s 3) (shl64 1 v1))) rfl ?_
  refine A_icmp hM.1 rfl rfl (fun hc => ?_) (fun hc => ?_)
  · replace hh := OK_t hh hc
    exact A_retv hM.1 rfl rfl rfl (hq (setH h s 3 (or64 (h s 3) (shl64 1 v1))) hh)
  · replace hh := OK_f hh hc
    refine A_blk hM.1 2 (lv1 := [some (aR s), some (aI v1), some (aI v2), some (aI v3)]) (s1 := [aR s, aR s]) (h1 := setH h s 3 (or64 (h s 3) (shl64 1 v1))) rfl ?_
    refine A_gl hM.1 rfl rfl rfl (sp_k0 ht) (sp_l0 ht) rfl ?_
    refine A_blk hM.1 4 (lv1 := [some (aR s), some (aI v1), some (aI v2), some (aI v3)]) (s1 := [aL (or64 ((setH h s 3 (or64 (h s 3) (shl64 1 v1))) s 4) (shl64 1 v1)), aR s]) (h1 := setH h s 3 (or64 (h s 3) (shl64 1 v1))) rfl ?_
    refine A_pl hM.1 rfl rfl rfl (sp_k0 ht) (sp_l0 ht) rfl rfl ?_
    refine A_blk hM.1 1 (lv1 := [some (aR s), some (aI v1), some (aI v2), some (aI v3)]) (s1 := [aR s]) (h1 := setH (setH h s 3 (or64 (h s 3) (shl64 1 v1))) s 4 (or64 ((setH h s 3 (or64 (h s 3) (shl64 1 v1))) s 4) (shl64 1 v1))) rfl ?_
    refine A_gr hM.1 rfl rfl rfl (sp_k0 ht) (sp_l0 ht) (Nat.lt_trans (sp_l1 ht) NF_lt) (sp_r2 ht) rfl ?_
    refine A_blk hM.1 2 (lv1 := [some (aR s), some (aI v1), some (aI v2), some (aI v3)]) (s1 := [aI v2, aI v1, aR (s + 1)]) (h1 := setH (setH h s 3 (or64 (h s 3) (shl64 1 v1))) s 4 (or64 ((setH h s 3 (or64 (h s 3) (shl64 1 v1))) s 4) (shl64 1 v1))) rfl ?_
    refine A_callSN (host := "QuotedBooks") hM rfl rfl (mem_NW 1134 (by decide +kernel) rfl) mi_X11_put ms_X11_put (As := [aR (s + 1), aI v1, aI v2]) (rest := []) (ct_X11_put (s + 1) 40 v1 v2 (setH (setH h s 3 (or64 (h s 3) (shl64 1 v1))) s 4 (or64 ((setH h s 3 (or64 (h s 3) (shl64 1 v1))) s 4) (shl64 1 v1))) (sp_k1 ht) (sp_n1 ht) (OK_bind hh)) (by decide) ⟨Nat.zero_le _, Nat.zero_le _⟩ rfl rfl (Nat.le_of_ble_eq_true rfl) (fun r F' h' hq1 => ?_)
    obtain ⟨rfl, rfl, hh⟩ := hq1
    obtain ⟨r1, rfl⟩ : ∃ z, z = h' := ⟨_, rfl⟩
    exact A_retv hM.1 rfl rfl rfl (hq r1 hh)

set_option maxRecDepth 20000 in
set_option maxHeartbeats 4000000 in
theorem ct_X8_addPlace {G : Gx} (s : Nat) (v1 : Int) (v2 : Int) (v3 : Int) (h : Hp)  (ht : s ∈ spL) {P : Hp → Prop} (hh : OK (X8_addPlace s v1 v2 v3 h) P) : CT G yX8_addPlace M_X8_addPlace 2 0 0 FN h [aR s, aI v1, aI v2, aI v3] (fun r F' h' => F' = FN ∧ r = none ∧ P h') :=
  CT.of (by decide +kernel) rfl (Nat.le_of_ble_eq_true rfl) k_X8_addPlace fun k0 _ _ hM => c_X8_addPlace hM s v1 v2 v3 h ht (fun z hz => ⟨rfl, rfl, hz⟩) hh

theorem mi_X8_addBit : MIv yX8_addBit M_X8_addBit 3 := ⟨⟨(mem_GW 1113 (by decide +kernel) rfl), (mem_GW 131 (by decide +kernel) rfl), by decide +kernel, by decide +kernel, by decide +kernel, by decide⟩, (mem_GW 1112 (by decide +kernel) rfl), (mem_GW 31 (by decide +kernel) rfl)⟩
set_option maxRecDepth 20000 in
set_option maxHeartbeats 4000000 in
theorem c_X8_addBit_j54 {k0 : K0} {G : Gx} {Qp : Option AV → Fx → Hp → Prop} (hM : MB (KM k0 0 0 Qp) G M_X8_addBit 4) (s : Nat) (v1 : Int) (v2 : Int) (v3 : Int) (v4 : Int) (v5 : Int) (h : Hp)  (ht : s ∈ spL) {P : ((Int × Hp) ⊕ (Hp)) → Prop} (hin : ∀ y : Int × Hp, P (.inl y) → ATk (KM k0 0 0 Qp) FN 0 0 M_X8_addBit 30 [some (aR s), some (aI v1), some (aI v2), some (aI v3), some (aI v4), some (aI y.1), none] [] y.2) (hout0 : ∀ y : Hp, P (.inr y) → ATk (KM k0 0 0 Qp) FN 0 0 M_X8_addBit 56 [none, none, none, none, none, none, none] [] y) (hh : OK (X8_addBit_j54 s v1 v2 v3 v4 v5 h) P) : ATk (KM k0 0 0 Qp) FN 0 0 M_X8_addBit 54 [some (aR s), some (aI v1), some (aI v2), some (aI v3), some (aI v4), some (aI v5), none] [] h := by
  unfold X8_addBit_j54 at hh
  refine A_blk hM.1 1 (lv1 := [some (aR s), some (aI v1), some (aI v2), some (aI v3), some (aI v4), some (aI (v5 + 1)), none]) (s1 := []) (h1 := h) rfl ?_
  refine A_go hM.1 rfl rfl ?_
  exact hin (v5 + 1, h) hh

set_option maxRecDepth 20000 in
set_option maxHeartbeats 4000000 in
theorem c_X8_addBit_l30 {k0 : K0} {G : Gx} {Qp : Option AV → Fx → Hp → Prop} (hM : MB (KM k0 0 0 Qp) G M_X8_addBit 4) (s : Nat) (v1 : Int) (v2 : Int) (v3 : Int) (v4 : Int) (x : Int × Hp)  (ht : s ∈ spL) {P : ((Int × Hp) ⊕ (Hp)) → Prop} (hin : ∀ y : Int × Hp, P (.inl y) → ATk (KM k0 0 0 Qp) FN 0 0 M_X8_addBit 30 [some (aR s), some (aI v1), some (aI v2), some (aI v3), some (aI v4), some (aI y.1), none] [] y.2) (hout0 : ∀ y : Hp, P (.inr y) → ATk (KM k0 0 0 Qp) FN 0 0 M_X8_addBit 56 [none, none, none, none, none, none, none] [] y) (hh : OK (X8_addBit_l30 s v1 v2 v3 v4 x) P) : ATk (KM k0 0 0 Qp) FN 0 0 M_X8_addBit 30 [some (aR s), some (aI v1), some (aI v2), some (aI v3), some (aI v4), some (aI x.1), none] [] x.2 := by
  unfold X8_addBit_l30 at hh
  refine A_blk hM.1 2 (lv1 := [some (aR s), some (aI v1), some (aI v2), some (aI v3), some (aI v4), some (aI x.1), none]) (s1 := [aI v4, aI x.1]) (h1 := x.2) rfl ?_
  refine A_icmp hM.1 rfl rfl (fun hc => ?_) (fun hc => ?_)
  · replace hh := OK_t hh hc
    refine A_mask [false, false, false, false, false, false, true] (lv1 := [none, none, none, none, none, none, none]) rfl ?_
    exact hout0 x.2 hh
  · replace hh := OK_f hh hc
    refine A_blk hM.1 6 (lv1 := [some (aR s), some (aI v1), some (aI v2), some (aI v3), some (aI v4), some (aI x.1), some (aI (v3 + x.1))]) (s1 := [aI (v3 + x.1), aR s]) (h1 := x.2) rfl ?_
    refine A_callV hM rfl rfl (mem_GW 1123 (by decide +kernel) rfl) mi_X8_has (As := [aI (v3 + x.1)]) (rest := []) (ct_X8_has s (v3 + x.1) x.2 ht (OK_bind hh)) (by decide) ⟨Nat.zero_le _, Nat.zero_le _⟩ rfl rfl (Nat.le_of_ble_eq_true rfl) (sp_l0 ht) (sp_k0 ht) (by decide) rfl (fun r F' h' hq1 => ?_)
    obtain ⟨rfl, r5, rfl, e9, hh⟩ := hq1
    subst h'
    refine A_ifc hM.1 rfl rfl (fun hc => ?_) (fun hc => ?_)
    · replace hh := OK_t hh hc
      refine A_mask [true, true, true, true, true, true, false] (lv1 := [some (aR s), some (aI v1), some (aI v2), some (aI v3), some (aI v4), some (aI x.1), none]) rfl ?_
      exact c_X8_addBit_j54 hM s v1 v2 v3 v4 x.1 x.2 ht hin hout0 hh
    · replace hh := OK_f hh hc
      refine A_blk hM.1 3 (lv1 := [some (aR s), some (aI v1), some (aI v2), some (aI v3), some (aI v4), some (aI x.1), some (aI (v3 + x.1))]) (s1 := [aR s, aI (v3 + x.1), aR s]) (h1 := x.2) rfl ?_
      refine A_gr hM.1 rfl rfl rfl (sp_k0 ht) (sp_l0 ht) (by decide) (sp_r0 ht) rfl ?_
      refine A_blk hM.1 2 (lv1 := [some (aR s), some (aI v1), some (aI v2), some (aI v3), some (aI v4), some (aI x.1), some (aI (v3 + x.1))]) (s1 := [aI x.1, aI v1, aR 3, aI (v3 + x.1), aR s]) (h1 := x.2) rfl ?_
      refine A_callV hM rfl rfl (mem_GW 1120 (by decide +kernel) rfl) mi_X7_bitWord (As := [aI v1, aI x.1]) (rest := [aI (v3 + x.1), aR s]) (ct_X7_bitWord v1 x.1 x.2 (OK_bind hh)) (by decide) ⟨Nat.zero_le _, Nat.zero_le _⟩ rfl rfl (Nat.le_of_ble_eq_true rfl) (by decide) rfl (by decide) rfl (fun r F' h' hq1 => ?_)
      obtain ⟨rfl, r6, rfl, e9, hh⟩ := hq1
      subst h'
      refine A_blk hM.1 1 (lv1 := [some (aR s), some (aI v1), some (aI v2), some (aI v3), some (aI v4), some (aI x.1), some (aI (v3 + x.1))]) (s1 := [aR s, aI r6, aI (v3 + x.1), aR s]) (h1 := x.2) rfl ?_
      refine A_gr hM.1 rfl rfl rfl (sp_k0 ht) (sp_l0 ht) (by decide) (sp_r0 ht) rfl ?_
      refine A_blk hM.1 2 (lv1 := [some (aR s), some (aI v1), some (aI v2), some (aI v3), some (aI v4), some (aI x.1), some (aI (v3 + x.1))]) (s1 := [aI (v3 + x.1), aI v2, aR 3, aI r6, aI (v3 + x.1), aR s]) (h1 := x.2) rfl ?_
      refine A_callV hM rfl rfl (mem_GW 1121 (by decide +kernel) rfl) mi_X7_workWord (As := [aI v2, aI (v3 + x.1)]) (rest := [aI r6, aI (v3 + x.1), aR s]) (ct_X7_workWord v2 (v3 + x.1) x.2 (OK_bind hh)) (by decide) ⟨Nat.zero_le _, Nat.zero_le _⟩ rfl rfl (Nat.le_of_ble_eq_true rfl) (by decide) rfl (by decide) rfl (fun r F' h' hq1 => ?_)
      obtain ⟨rfl, r7, rfl, e9, hh⟩ := hq1
      subst h'
      refine A_callV hM rfl rfl (mem_GW 1130 (by decide +kernel) rfl) mi_X8_addPlace (As := [aI (v3 + x.1), aI r6, aI r7]) (rest := []) (ct_X8_addPlace s (v3 + x.1) r6 r7 x.2 ht (OK_bind hh)) (by decide) ⟨Nat.zero_le _, Nat.zero_le _⟩ rfl rfl (Nat.le_of_ble_eq_true rfl) (sp_l0 ht) (sp_k0 ht) (by decide) rfl (fun r F' h' hq1 => ?_)
      obtain ⟨rfl, rfl, hh⟩ := hq1
      obtain ⟨r8, rfl⟩ : ∃ z, z = h' := ⟨_, rfl⟩
      refine A_mask [true, true, true, true, true, true, false] (lv1 := [some (aR s), some (aI v1), some (aI v2), some (aI v3), some (aI v4), some (aI x.1), none]) rfl ?_
      exact c_X8_addBit_j54 hM s v1 v2 v3 v4 x.1 r8 ht hin hout0 hh

set_option maxRecDepth 20000 in
set_option maxHeartbeats 4000000 in
theorem c_X8_addBit {k0 : K0} {G : Gx} {Qp : Option AV → Fx → Hp → Prop} (hM : MB (KM k0 0 0 Qp) G M_X8_addBit 4) (s : Nat) (v1 : Int) (v2 : Int) (v3 : Int) (h : Hp)  (ht : s ∈ spL) {P : Hp → Prop} (hq : ∀ z : Hp, P z → Qp none FN z) (hh : OK (X8_addBit s v1 v2 v3 h) P) : ATk (KM k0 0 0 Qp) FN 0 0 M_X8_addBit 0 [some (aR s), some (aI v1), some (aI v2), some (aI v3), none, none, none] [] h := by
  unfold X8_addBit at hh
  refine A_blk hM.1 1 (lv1 := [some (aR s), some (aI v1), some (aI v2), some (aI v3), none, none, none]) (s1 := [aR s]) (h1 := h) rfl ?_
  refine A_gr hM.1 rfl rfl rfl (sp_k0 ht) (sp_l0 ht) (by decide) (sp_r0 ht) rfl ?_
  refine A_blk hM.1 1 (lv1 := [some (aR s), some (aI v1), some (aI v2), some (aI v3), none, none, none]) (s1 := [aI v1, aR 3]) (h1 := h) rfl ?_
  refine A_callV hM rfl rfl (mem_GW 1114 (by decide +kernel) rfl) mi_X7_bitSize (As := [aI v1]) (rest := []) (ct_X7_bitSize v1 h (OK_bind hh)) (by decide) ⟨Nat.zero_le _, Nat.zero_le _⟩ rfl rfl (Nat.le_of_ble_eq_true rfl) (by decide) rfl (by decide) rfl (fun r F' h' hq1 => ?_)
  obtain ⟨rfl, r1, rfl, e9, hh⟩ := hq1
  subst h'
  refine A_blk hM.1 2 (lv1 := [some (aR s), some (aI v1), some (aI v2), some (aI v3), some (aI r1), none, none]) (s1 := [aR s]) (h1 := h) rfl ?_
  refine A_gr hM.1 rfl rfl rfl (sp_k0 ht) (sp_l0 ht) (by decide) (sp_r1 ht) rfl ?_
  refine A_blk hM.1 2 (lv1 := [some (aR s), some (aI v1), some (aI v2), some (aI v3), some (aI r1), none, none]) (s1 := [aI v2, aI v1, aR 53]) (h1 := h) rfl ?_
  refine A_callV hM rfl rfl (mem_GW 1115 (by decide +kernel) rfl) mi_X1_lastPlace (As := [aI v1, aI v2]) (rest := []) (ct_X1_lastPlace v1 v2 h (OK_bind hh)) (by decide) ⟨Nat.zero_le _, Nat.zero_le _⟩ rfl rfl (Nat.le_of_ble_eq_true rfl) (by decide) rfl (by decide) rfl (fun r F' h' hq1 => ?_)
  obtain ⟨rfl, r2, rfl, e9, hh⟩ := hq1
  subst h'
  refine A_blk hM.1 5 (lv1 := [some (aR s), some (aI v1), some (aI v2), some (aI v3), some (aI r1), none, none]) (s1 := [aI r1, aI ((r2 - v3) + 1)]) (h1 := h) rfl ?_
  refine A_icmp hM.1 rfl rfl (fun hc => ?_) (fun hc => ?_)
  · replace hh := OK_t hh hc
    exact A_retv hM.1 rfl rfl rfl (hq h hh)
  · replace hh := OK_f hh hc
    refine A_blk hM.1 4 (lv1 := [some (aR s), some (aI v1), some (aI v2), some (aI v3), some (aI r1), none, none]) (s1 := [aI v3, aI v2, aI v1, aR s]) (h1 := h) rfl ?_
    refine A_callV hM rfl rfl (mem_GW 1116 (by decide +kernel) rfl) mi_X8_others (As := [aI v1, aI v2, aI v3]) (rest := []) (ct_X8_others s v1 v2 v3 h ht (OK_bind hh)) (by decide) ⟨Nat.zero_le _, Nat.zero_le _⟩ rfl rfl (Nat.le_of_ble_eq_true rfl) (sp_l0 ht) (sp_k0 ht) (by decide) rfl (fun r F' h' hq1 => ?_)
    obtain ⟨rfl, r3, rfl, e9, hh⟩ := hq1
    subst h'
    refine A_blk hM.1 1 (lv1 := [some (aR s), some (aI v1), some (aI v2), some (aI v3), some (aI r1), none, none]) (s1 := [aR s, aI r3]) (h1 := h) rfl ?_
    refine A_gr hM.1 rfl rfl rfl (sp_k0 ht) (sp_l0 ht) (by decide) (sp_r1 ht) rfl ?_
    refine A_blk hM.1 2 (lv1 := [some (aR s), some (aI v1), some (aI v2), some (aI v3), some (aI r1), none, none]) (s1 := [aI v2, aI v1, aR 53, aI r3]) (h1 := h) rfl ?_
    refine A_callV hM rfl rfl (mem_GW 1122 (by decide +kernel) rfl) mi_X1_leastFar (As := [aI v1, aI v2]) (rest := [aI r3]) (ct_X1_leastFar v1 v2 h (OK_bind hh)) (by decide) ⟨Nat.zero_le _, Nat.zero_le _⟩ rfl rfl (Nat.le_of_ble_eq_true rfl) (by decide) rfl (by decide) rfl (fun r F' h' hq1 => ?_)
    obtain ⟨rfl, r4, rfl, e9, hh⟩ := hq1
    subst h'
    refine A_icmp hM.1 rfl rfl (fun hc => ?_) (fun hc => ?_)
    · replace hh := OK_t hh hc
      refine A_blk hM.1 2 (lv1 := [some (aR s), some (aI v1), some (aI v2), some (aI v3), some (aI r1), some (aI 0), none]) (s1 := []) (h1 := h) rfl ?_
      refine iter_ok (s := (0, h)) (Gp := fun z => ATk (KM k0 0 0 Qp) FN 0 0 M_X8_addBit 30 [some (aR s), some (aI v1), some (aI v2), some (aI v3), some (aI r1), some (aI z.1), none] [] z.2) (E := fun z => ATk (KM k0 0 0 Qp) FN 0 0 M_X8_addBit 56 [none, none, none, none, none, none, none] [] z) (fun z P1 g1 g2 g3 => c_X8_addBit_l30 hM s v1 v2 v3 r1 z ht g2 g3 g1) (OK_bind hh) (fun x9 hh => ?_)
      exact A_retv hM.1 rfl rfl rfl (hq x9 hh)
    · replace hh := OK_f hh hc
      exact A_retv hM.1 rfl rfl rfl (hq h hh)

set_option maxRecDepth 20000 in
set_option maxHeartbeats 4000000 in
theorem ct_X8_addBit {G : Gx} (s : Nat) (v1 : Int) (v2 : Int) (v3 : Int) (h : Hp)  (ht : s ∈ spL) {P : Hp → Prop} (hh : OK (X8_addBit s v1 v2 v3 h) P) : CT G yX8_addBit M_X8_addBit 4 0 0 FN h [aR s, aI v1, aI v2, aI v3] (fun r F' h' => F' = FN ∧ r = none ∧ P h') :=
  CT.of (by decide +kernel) rfl (Nat.le_of_ble_eq_true rfl) k_X8_addBit fun k0 _ _ hM => c_X8_addBit hM s v1 v2 v3 h ht (fun z hz => ⟨rfl, rfl, hz⟩) hh

theorem mi_X8_gather : MIv yX8_gather M_X8_gather 2 := ⟨⟨(mem_GW 1104 (by decide +kernel) rfl), (mem_GW 131 (by decide +kernel) rfl), by decide +kernel, by decide +kernel, by decide +kernel, by decide⟩, (mem_GW 1102 (by decide +kernel) rfl), (mem_GW 1103 (by decide +kernel) rfl)⟩
set_option maxRecDepth 20000 in
set_option maxHeartbeats 4000000 in
theorem c_X8_gather_j39 {k0 : K0} {G : Gx} {Qp : Option AV → Fx → Hp → Prop} (hM : MB (KM k0 0 0 Qp) G M_X8_gather 5) (s : Nat) (v1 : Int) (v2 : Int) (v3 : Int) (h : Hp)  (ht : s ∈ spL) {P : ((Int × Hp) ⊕ (Hp)) → Prop} (hin : ∀ y : Int × Hp, P (.inl y) → ATk (KM k0 0 0 Qp) FN 0 0 M_X8_gather 8 [some (aR s), some (aI v1), some (aI v2), some (aI y.1)] [] y.2) (hout0 : ∀ y : Hp, P (.inr y) → ATk (KM k0 0 0 Qp) FN 0 0 M_X8_gather 41 [none, none, none, none] [] y) (hh : OK (X8_gather_j39 s v1 v2 v3 h) P) : ATk (KM k0 0 0 Qp) FN 0 0 M_X8_gather 39 [some (aR s), some (aI v1), some (aI v2), some (aI v3)] [] h := by
  unfold X8_gather_j39 at hh
  refine A_blk hM.1 1 (lv1 := [some (aR s), some (aI v1), some (aI v2), some (aI (v3 + 1))]) (s1 := []) (h1 := h) rfl ?_
  refine A_go hM.1 rfl rfl ?_
  exact hin (v3 + 1, h) hh

set_option maxRecDepth 20000 in
set_option maxHeartbeats 4000000 in
theorem c_X8_gather_l8 {k0 : K0} {G : Gx} {Qp : Option AV → Fx → Hp → Prop} (hM : MB (KM k0 0 0 Qp) G M_X8_gather 5) (s : Nat) (v1 : Int) (v2 : Int) (x : Int × Hp)  (ht : s ∈ spL) {P : ((Int × Hp) ⊕ (Hp)) → Prop} (hin : ∀ y : Int × Hp, P (.inl y) → ATk (KM k0 0 0 Qp) FN 0 0 M_X8_gather 8 [some (aR s), some (aI v1), some (aI v2), some (aI y.1)] [] y.2) (hout0 : ∀ y : Hp, P (.inr y) → ATk (KM k0 0 0 Qp) FN 0 0 M_X8_gather 41 [none, none, none, none] [] y) (hh : OK (X8_gather_l8 s v1 v2 x) P) : ATk (KM k0 0 0 Qp) FN 0 0 M_X8_gather 8 [some (aR s), some (aI v1), some (aI v2), some (aI x.1)] [] x.2 := by
  unfold X8_gather_l8 at hh
  refine A_blk hM.1 2 (lv1 := [some (aR s), some (aI v1), some (aI v2), some (aI x.1)]) (s1 := [aR s, aI x.1]) (h1 := x.2) rfl ?_
  refine A_gr hM.1 rfl rfl rfl (sp_k0 ht) (sp_l0 ht) (by decide) (sp_r0 ht) rfl ?_
  refine A_callV hM rfl rfl (mem_GW 1105 (by decide +kernel) rfl) mi_X7_bits (As := []) (rest := [aI x.1]) (ct_X7_bits x.2 (OK_bind hh)) (by decide) ⟨Nat.zero_le _, Nat.zero_le _⟩ rfl rfl (Nat.le_of_ble_eq_true rfl) (by decide) rfl (by decide) rfl (fun r F' h' hq1 => ?_)
  obtain ⟨rfl, r1, rfl, e9, hh⟩ := hq1
  subst h'
  refine A_icmp hM.1 rfl rfl (fun hc => ?_) (fun hc => ?_)
  · replace hh := OK_t hh hc
    refine A_mask [false, false, false, false] (lv1 := [none, none, none, none]) rfl ?_
    exact hout0 x.2 hh
  · replace hh := OK_f hh hc
    refine A_blk hM.1 1 (lv1 := [some (aR s), some (aI v1), some (aI v2), some (aI x.1)]) (s1 := [aR s]) (h1 := x.2) rfl ?_
    refine A_gr hM.1 rfl rfl rfl (sp_k0 ht) (sp_l0 ht) (by decide) (sp_r0 ht) rfl ?_
    refine A_blk hM.1 1 (lv1 := [some (aR s), some (aI v1), some (aI v2), some (aI x.1)]) (s1 := [aI x.1, aR 3]) (h1 := x.2) rfl ?_
    refine A_callV hM rfl rfl (mem_GW 1106 (by decide +kernel) rfl) mi_X7_bitWriter (As := [aI x.1]) (rest := []) (ct_X7_bitWriter x.1 x.2 (OK_bind hh)) (by decide) ⟨Nat.zero_le _, Nat.zero_le _⟩ rfl rfl (Nat.le_of_ble_eq_true rfl) (by decide) rfl (by decide) rfl (fun r F' h' hq1 => ?_)
    obtain ⟨rfl, r2, rfl, e9, hh⟩ := hq1
    subst h'
    refine A_blk hM.1 1 (lv1 := [some (aR s), some (aI v1), some (aI v2), some (aI x.1)]) (s1 := [aI v1, aI r2]) (h1 := x.2) rfl ?_
    refine A_icmp hM.1 rfl rfl (fun hc => ?_) (fun hc => ?_)
    · replace hh := OK_t hh hc
      exact c_X8_gather_j39 hM s v1 v2 x.1 x.2 ht hin hout0 hh
    · replace hh := OK_f hh hc
      refine A_blk hM.1 1 (lv1 := [some (aR s), some (aI v1), some (aI v2), some (aI x.1)]) (s1 := [aR s]) (h1 := x.2) rfl ?_
      refine A_gr hM.1 rfl rfl rfl (sp_k0 ht) (sp_l0 ht) (by decide) (sp_r0 ht) rfl ?_
      refine A_blk hM.1 1 (lv1 := [some (aR s), some (aI v1), some (aI v2), some (aI x.1)]) (s1 := [aI x.1, aR 3]) (h1 := x.2) rfl ?_
      refine A_callV hM rfl rfl (mem_GW 1107 (by decide +kernel) rfl) mi_X7_bitWork (As := [aI x.1]) (rest := []) (ct_X7_bitWork x.1 x.2 (OK_bind hh)) (by decide) ⟨Nat.zero_le _, Nat.zero_le _⟩ rfl rfl (Nat.le_of_ble_eq_true rfl) (by decide) rfl (by decide) rfl (fun r F' h' hq1 => ?_)
      obtain ⟨rfl, r3, rfl, e9, hh⟩ := hq1
      subst h'
      refine A_blk hM.1 1 (lv1 := [some (aR s), some (aI v1), some (aI v2), some (aI x.1)]) (s1 := [aI v2, aI r3]) (h1 := x.2) rfl ?_
      refine A_icmp hM.1 rfl rfl (fun hc => ?_) (fun hc => ?_)
      · replace hh := OK_t hh hc
        exact c_X8_gather_j39 hM s v1 v2 x.1 x.2 ht hin hout0 hh
      · replace hh := OK_f hh hc
        refine A_blk hM.1 1 (lv1 := [some (aR s), some (aI v1), some (aI v2), some (aI x.1)]) (s1 := [aR s]) (h1 := x.2) rfl ?_
        refine A_gr hM.1 rfl rfl rfl (sp_k0 ht) (sp_l0 ht) (by decide) (sp_r1 ht) rfl ?_
        refine A_blk hM.1 2 (lv1 := [some (aR s), some (aI v1), some (aI v2), some (aI x.1)]) (s1 := [aI v2, aI x.1, aR 53]) (h1 := x.2) rfl ?_
        refine A_callV hM rfl rfl (mem_GW 1108 (by decide +kernel) rfl) mi_X1_find (As := [aI x.1, aI v2]) (rest := []) (ct_X1_find x.1 v2 x.2 (OK_bind hh)) (by decide) ⟨Nat.zero_le _, Nat.zero_le _⟩ rfl rfl (Nat.le_of_ble_eq_true rfl) (by decide) rfl (by decide) rfl (fun r F' h' hq1 => ?_)
        obtain ⟨rfl, rfl, hh⟩ := hq1
        obtain ⟨r4, rfl⟩ : ∃ z, z = h' := ⟨_, rfl⟩
        refine A_blk hM.1 4 (lv1 := [some (aR s), some (aI v1), some (aI v2), some (aI x.1)]) (s1 := [aR s, aI v2, aI x.1, aR s]) (h1 := r4) rfl ?_
        refine A_gr hM.1 rfl rfl rfl (sp_k0 ht) (sp_l0 ht) (by decide) (sp_r1 ht) rfl ?_
        refine A_blk hM.1 2 (lv1 := [some (aR s), some (aI v1), some (aI v2), some (aI x.1)]) (s1 := [aI v2, aI x.1, aR 53, aI v2, aI x.1, aR s]) (h1 := r4) rfl ?_
        refine A_callV hM rfl rfl (mem_GW 1109 (by decide +kernel) rfl) mi_X1_firstPlace (As := [aI x.1, aI v2]) (rest := [aI v2, aI x.1, aR s]) (ct_X1_firstPlace x.1 v2 r4 (OK_bind hh)) (by decide) ⟨Nat.zero_le _, Nat.zero_le _⟩ rfl rfl (Nat.le_of_ble_eq_true rfl) (by decide) rfl (by decide) rfl (fun r F' h' hq1 => ?_)
        obtain ⟨rfl, r5, rfl, e9, hh⟩ := hq1
        subst h'
        refine A_callV hM rfl rfl (mem_GW 1110 (by decide +kernel) rfl) mi_X8_addBit (As := [aI x.1, aI v2, aI r5]) (rest := []) (ct_X8_addBit s x.1 v2 r5 r4 ht (OK_bind hh)) (by decide) ⟨Nat.zero_le _, Nat.zero_le _⟩ rfl rfl (Nat.le_of_ble_eq_true rfl) (sp_l0 ht) (sp_k0 ht) (by decide) rfl (fun r F' h' hq1 => ?_)
        obtain ⟨rfl, rfl, hh⟩ := hq1
        obtain ⟨r6, rfl⟩ : ∃ z, z = h' := ⟨_, rfl⟩
        exact c_X8_gather_j39 hM s v1 v2 x.1 r6 ht hin hout0 hh

set_option maxRecDepth 20000 in
set_option maxHeartbeats 4000000 in
theorem c_X8_gather {k0 : K0} {G : Gx} {Qp : Option AV → Fx → Hp → Prop} (hM : MB (KM k0 0 0 Qp) G M_X8_gather 5) (s : Nat) (v1 : Int) (v2 : Int) (h : Hp)  (ht : s ∈ spL) {P : Hp → Prop} (hq : ∀ z : Hp, P z → Qp none FN z) (hh : OK (X8_gather s v1 v2 h) P) : ATk (KM k0 0 0 Qp) FN 0 0 M_X8_gather 0 [some (aR s), some (aI v1), some (aI v2), none] [] h := by
  unfold X8_gather at hh
  refine A_blk hM.1 2 (lv1 := [some (aR s), some (aI v1), some (aI v2), none]) (s1 := [aL 0, aR s]) (h1 := h) rfl ?_
  refine A_pl hM.1 rfl rfl rfl (sp_k0 ht) (sp_l0 ht) rfl rfl ?_
  refine A_blk hM.1 2 (lv1 := [some (aR s), some (aI v1), some (aI v2), none]) (s1 := [aL 0, aR s]) (h1 := setH h s 3 0) rfl ?_
  refine A_pl hM.1 rfl rfl rfl (sp_k0 ht) (sp_l0 ht) rfl rfl ?_
  refine A_blk hM.1 2 (lv1 := [some (aR s), some (aI v1), some (aI v2), some (aI 0)]) (s1 := []) (h1 := setH (setH h s 3 0) s 4 0) rfl ?_
  refine iter_ok (s := (0, setH (setH h s 3 0) s 4 0)) (Gp := fun z => ATk (KM k0 0 0 Qp) FN 0 0 M_X8_gather 8 [some (aR s), some (aI v1), some (aI v2), some (aI z.1)] [] z.2) (E := fun z => ATk (KM k0 0 0 Qp) FN 0 0 M_X8_gather 41 [none, none, none, none] [] z) (fun z P1 g1 g2 g3 => c_X8_gather_l8 hM s v1 v2 z ht g2 g3 g1) (OK_bind hh) (fun x7 hh => ?_)
  exact A_retv hM.1 rfl rfl rfl (hq x7 hh)

set_option maxRecDepth 20000 in
set_option maxHeartbeats 4000000 in
theorem ct_X8_gather {G : Gx} (s : Nat) (v1 : Int) (v2 : Int) (h : Hp)  (ht : s ∈ spL) {P : Hp → Prop} (hh : OK (X8_gather s v1 v2 h) P) : CT G yX8_gather M_X8_gather 5 0 0 FN h [aR s, aI v1, aI v2] (fun r F' h' => F' = FN ∧ r = none ∧ P h') :=
  CT.of (by decide +kernel) rfl (Nat.le_of_ble_eq_true rfl) k_X8_gather fun k0 _ _ hM => c_X8_gather hM s v1 v2 h ht (fun z hz => ⟨rfl, rfl, hz⟩) hh

theorem mi_X2_slipsOf : MIv yX2_slipsOf M_X2_slipsOf 2 := ⟨⟨(mem_GW 1100 (by decide +kernel) rfl), (mem_GW 130 (by decide +kernel) rfl), by decide +kernel, by decide +kernel, by decide +kernel, by decide⟩, (mem_GW 1098 (by decide +kernel) rfl), (mem_GW 1099 (by decide +kernel) rfl)⟩
set_option maxRecDepth 20000 in
set_option maxHeartbeats 4000000 in
theorem c_X2_slipsOf {k0 : K0} {G : Gx} {Qp : Option AV → Fx → Hp → Prop} (hM : MB (KM k0 0 0 Qp) G M_X2_slipsOf 6) (v1 : Int) (v2 : Int) (h : Hp)   {P : (Option Nat × Hp) → Prop} (hq : ∀ z : Option Nat × Hp, P z → Qp (some (aO z.1)) FN z.2) (hh : OK (X2_slipsOf v1 v2 h) P) : ATk (KM k0 0 0 Qp) FN 0 0 M_X2_slipsOf 0 [some (aR 61), some (aI v1), some (aI v2)] [] h := by
  unfold X2_slipsOf at hh
  refine A_blk hM.1 4 (lv1 := [some (aR 61), some (aI v1), some (aI v2)]) (s1 := [aI v2, aI v1, aR 62]) (h1 := h) rfl ?_
  refine A_callV hM rfl rfl (mem_GW 1101 (by decide +kernel) rfl) mi_X8_gather (As := [aI v1, aI v2]) (rest := []) (ct_X8_gather 62 v1 v2 h (by decide) (OK_bind hh)) (by decide) ⟨Nat.zero_le _, Nat.zero_le _⟩ rfl rfl (Nat.le_of_ble_eq_true rfl) (by decide) rfl (by decide) rfl (fun r F' h' hq1 => ?_)
  obtain ⟨rfl, rfl, hh⟩ := hq1
  obtain ⟨r1, rfl⟩ : ∃ z, z = h' := ⟨_, rfl⟩
  refine A_blk hM.1 2 (lv1 := [some (aR 61), some (aI v1), some (aI v2)]) (s1 := [aR 62]) (h1 := r1) rfl ?_
  exact A_reta hM.1 rfl rfl rfl (hq (some 62, r1) hh)

set_option maxRecDepth 20000 in
set_option maxHeartbeats 4000000 in
theorem ct_X2_slipsOf {G : Gx} (v1 : Int) (v2 : Int) (h : Hp)   {P : (Option Nat × Hp) → Prop} (hh : OK (X2_slipsOf v1 v2 h) P) : CT G yX2_slipsOf M_X2_slipsOf 6 0 0 FN h [aR 61, aI v1, aI v2] (fun r F' h' => F' = FN ∧ ∃ z, r = some (aO z.1) ∧ h' = z.2 ∧ P z) :=
  CT.of (by decide +kernel) rfl (Nat.le_of_ble_eq_true rfl) k_X2_slipsOf fun k0 _ _ hM => c_X2_slipsOf hM v1 v2 h (fun z hz => ⟨rfl, z, rfl, rfl, hz⟩) hh

theorem mi_X8_marks : MIv yX8_marks M_X8_marks 0 := ⟨⟨(mem_GW 1138 (by decide +kernel) rfl), (mem_GW 131 (by decide +kernel) rfl), by decide +kernel, by decide +kernel, by decide +kernel, by decide⟩, (mem_GW 1136 (by decide +kernel) rfl), (mem_GW 1137 (by decide +kernel) rfl)⟩
set_option maxRecDepth 20000 in
set_option maxHeartbeats 4000000 in
theorem c_X8_marks {k0 : K0} {G : Gx} {Qp : Option AV → Fx → Hp → Prop} (hM : MB (KM k0 0 0 Qp) G M_X8_marks 1) (s : Nat) (h : Hp)  (ht : s ∈ spL) {P : Int → Prop} (hq : ∀ z : Int, P z → Qp (some (aL z)) FN h) (hh : OK (X8_marks s h) P) : ATk (KM k0 0 0 Qp) FN 0 0 M_X8_marks 0 [some (aR s)] [] h := by
  unfold X8_marks at hh
  refine A_blk hM.1 1 (lv1 := [some (aR s)]) (s1 := [aR s]) (h1 := h) rfl ?_
  refine A_gl hM.1 rfl rfl rfl (sp_k0 ht) (sp_l0 ht) rfl ?_
  exact A_retl hM.1 rfl rfl rfl (hq (h s 4) hh)

set_option maxRecDepth 20000 in
set_option maxHeartbeats 4000000 in
theorem ct_X8_marks {G : Gx} (s : Nat) (h : Hp)  (ht : s ∈ spL) {P : Int → Prop} (hh : OK (X8_marks s h) P) : CT G yX8_marks M_X8_marks 1 0 0 FN h [aR s] (fun r F' h' => F' = FN ∧ ∃ z, r = some (aL z) ∧ h' = h ∧ P z) :=
  CT.of (by decide +kernel) rfl (Nat.le_of_ble_eq_true rfl) k_X8_marks fun k0 _ _ hM => c_X8_marks hM s h ht (fun z hz => ⟨rfl, z, rfl, rfl, hz⟩) hh

theorem mi_J13_bitCount : MIs yJ13_bitCount_95d88 M_J13_bitCount 1 := ⟨(mem_GW 1141 (by decide +kernel) rfl), (mem_GW 143 (by decide +kernel) rfl), by decide +kernel, by decide +kernel, by decide +kernel, by decide⟩
theorem ms_J13_bitCount : .static yJ13_bitCount_95d88 ∈ GW := (mem_GW 1140 (by decide +kernel) rfl)
set_option maxRecDepth 20000 in
set_option maxHeartbeats 4000000 in
theorem c_J13_bitCount {k0 : K0} {G : Gx} {Qp : Option AV → Fx → Hp → Prop} (hM : MB (KM k0 0 0 Qp) G M_J13_bitCount 1) (v0 : Int) (h : Hp)  {P : Int → Prop} (hq : ∀ z : Int, P z → Qp (some (aI z)) FN h) (hh : OK (J13_bitCount v0) P) : ATk (KM k0 0 0 Qp) FN 0 0 M_J13_bitCount 0 [some (aL v0), none] [] h := by
  unfold J13_bitCount at hh
  refine A_blk hM.1 48 (lv1 := [some (aL ((((and64 (((and64 (v0 - (and64 (ushr64 v0 1) 6148914691236517205)) 3689348814741910323) + (and64 (ushr64 (v0 - (and64 (ushr64 v0 1) 6148914691236517205)) 2) 3689348814741910323)) + (ushr64 ((and64 (v0 - (and64 (ushr64 v0 1) 6148914691236517205)) 3689348814741910323) + (and64 (ushr64 (v0 - (and64 (ushr64 v0 1) 6148914691236517205)) 2) 3689348814741910323)) 4)) 1085102592571150095) + (ushr64 (and64 (((and64 (v0 - (and64 (ushr64 v0 1) 6148914691236517205)) 3689348814741910323) + (and64 (ushr64 (v0 - (and64 (ushr64 v0 1) 6148914691236517205)) 2) 3689348814741910323)) + (ushr64 ((and64 (v0 - (and64 (ushr64 v0 1) 6148914691236517205)) 3689348814741910323) + (and64 (ushr64 (v0 - (and64 (ushr64 v0 1) 6148914691236517205)) 2) 3689348814741910323)) 4)) 1085102592571150095) 8)) + (ushr64 ((and64 (((and64 (v0 - (and64 (ushr64 v0 1) 6148914691236517205)) 3689348814741910323) + (and64 (ushr64 (v0 - (and64 (ushr64 v0 1) 6148914691236517205)) 2) 3689348814741910323)) + (ushr64 ((and64 (v0 - (and64 (ushr64 v0 1) 6148914691236517205)) 3689348814741910323) + (and64 (ushr64 (v0 - (and64 (ushr64 v0 1) 6148914691236517205)) 2) 3689348814741910323)) 4)) 1085102592571150095) + (ushr64 (and64 (((and64 (v0 - (and64 (ushr64 v0 1) 6148914691236517205)) 3689348814741910323) + (and64 (ushr64 (v0 - (and64 (ushr64 v0 1) 6148914691236517205)) 2) 3689348814741910323)) + (ushr64 ((and64 (v0 - (and64 (ushr64 v0 1) 6148914691236517205)) 3689348814741910323) + (and64 (ushr64 (v0 - (and64 (ushr64 v0 1) 6148914691236517205)) 2) 3689348814741910323)) 4)) 1085102592571150095) 8)) 16)) + (ushr64 (((and64 (((and64 (v0 - (and64 (ushr64 v0 1) 6148914691236517205)) 3689348814741910323) + (and64 (ushr64 (v0 - (and64 (ushr64 v0 1) 6148914691236517205)) 2) 3689348814741910323)) + (ushr64 ((and64 (v0 - (and64 (ushr64 v0 1) 6148914691236517205)) 3689348814741910323) + (and64 (ushr64 (v0 - (and64 (ushr64 v0 1) 6148914691236517205)) 2) 3689348814741910323)) 4)) 1085102592571150095) + (ushr64 (and64 (((and64 (v0 - (and64 (ushr64 v0 1) 6148914691236517205)) 3689348814741910323) + (and64 (ushr64 (v0 - (and64 (ushr64 v0 1) 6148914691236517205)) 2) 3689348814741910323)) + (ushr64 ((and64 (v0 - (and64 (ushr64 v0 1) 6148914691236517205)) 3689348814741910323) + (and64 (ushr64 (v0 - (and64 (ushr64 v0 1) 6148914691236517205)) 2) 3689348814741910323)) 4)) 1085102592571150095) 8)) + (ushr64 ((and64 (((and64 (v0 - (and64 (ushr64 v0 1) 6148914691236517205)) 3689348814741910323) + (and64 (ushr64 (v0 - (and64 (ushr64 v0 1) 6148914691236517205)) 2) 3689348814741910323)) + (ushr64 ((and64 (v0 - (and64 (ushr64 v0 1) 6148914691236517205)) 3689348814741910323) + (and64 (ushr64 (v0 - (and64 (ushr64 v0 1) 6148914691236517205)) 2) 3689348814741910323)) 4)) 1085102592571150095) + (ushr64 (and64 (((and64 (v0 - (and64 (ushr64 v0 1) 6148914691236517205)) 3689348814741910323) + (and64 (ushr64 (v0 - (and64 (ushr64 v0 1) 6148914691236517205)) 2) 3689348814741910323)) + (ushr64 ((and64 (v0 - (and64 (ushr64 v0 1) 6148914691236517205)) 3689348814741910323) + (and64 (ushr64 (v0 - (and64 (ushr64 v0 1) 6148914691236517205)) 2) 3689348814741910323)) 4)) 1085102592571150095) 8)) 16)) 32))), none]) (s1 := [aI (and32 (l2i ((((and64 (((and64 (v0 - (and64 (ushr64 v0 1) 6148914691236517205)) 3689348814741910323) + (and64 (ushr64 (v0 - (and64 (ushr64 v0 1) 6148914691236517205)) 2) 3689348814741910323)) + (ushr64 ((and64 (v0 - (and64 (ushr64 v0 1) 6148914691236517205)) 3689348814741910323) + (and64 (ushr64 (v0 - (and64 (ushr64 v0 1) 6148914691236517205)) 2) 3689348814741910323)) 4)) 1085102592571150095) + (ushr64 (and64 (((and64 (v0 - (and64 (ushr64 v0 1) 6148914691236517205)) 3689348814741910323) + (and64 (ushr64 (v0 - (and64 (ushr64 v0 1) 6148914691236517205)) 2) 3689348814741910323)) + (ushr64 ((and64 (v0 - (and64 (ushr64 v0 1) 6148914691236517205)) 3689348814741910323) + (and64 (ushr64 (v0 - (and64 (ushr64 v0 1) 6148914691236517205)) 2) 3689348814741910323)) 4)) 1085102592571150095) 8)) + (ushr64 ((and64 (((and64 (v0 - (and64 (ushr64 v0 1) 6148914691236517205)) 3689348814741910323) + (and64 (ushr64 (v0 - (and64 (ushr64 v0 1) 6148914691236517205)) 2) 3689348814741910323)) + (ushr64 ((and64 (v0 - (and64 (ushr64 v0 1) 6148914691236517205)) 3689348814741910323) + (and64 (ushr64 (v0 - (and64 (ushr64 v0 1) 6148914691236517205)) 2) 3689348814741910323)) 4)) 1085102592571150095) + (ushr64 (and64 (((and64 (v0 - (and64 (ushr64 v0 1) 6148914691236517205)) 3689348814741910323) + (and64 (ushr64 (v0 - (and64 (ushr64 v0 1) 6148914691236517205)) 2) 3689348814741910323)) + (ushr64 ((and64 (v0 - (and64 (ushr64 v0 1) 6148914691236517205)) 3689348814741910323) + (and64 (ushr64 (v0 - (and64 (ushr64 v0 1) 6148914691236517205)) 2) 3689348814741910323)) 4)) 1085102592571150095) 8)) 16)) + (ushr64 (((and64 (((and64 (v0 - (and64 (ushr64 v0 1) 6148914691236517205)) 3689348814741910323) + (and64 (ushr64 (v0 - (and64 (ushr64 v0 1) 6148914691236517205)) 2) 3689348814741910323)) + (ushr64 ((and64 (v0 - (and64 (ushr64 v0 1) 6148914691236517205)) 3689348814741910323) + (and64 (ushr64 (v0 - (and64 (ushr64 v0 1) 6148914691236517205)) 2) 3689348814741910323)) 4)) 1085102592571150095) + (ushr64 (and64 (((and64 (v0 - (and64 (ushr64 v0 1) 6148914691236517205)) 3689348814741910323) + (and64 (ushr64 (v0 - (and64 (ushr64 v0 1) 6148914691236517205)) 2) 3689348814741910323)) + (ushr64 ((and64 (v0 - (and64 (ushr64 v0 1) 6148914691236517205)) 3689348814741910323) + (and64 (ushr64 (v0 - (and64 (ushr64 v0 1) 6148914691236517205)) 2) 3689348814741910323)) 4)) 1085102592571150095) 8)) + (ushr64 ((and64 (((and64 (v0 - (and64 (ushr64 v0 1) 6148914691236517205)) 3689348814741910323) + (and64 (ushr64 (v0 - (and64 (ushr64 v0 1) 6148914691236517205)) 2) 3689348814741910323)) + (ushr64 ((and64 (v0 - (and64 (ushr64 v0 1) 6148914691236517205)) 3689348814741910323) + (and64 (ushr64 (v0 - (and64 (ushr64 v0 1) 6148914691236517205)) 2) 3689348814741910323)) 4)) 1085102592571150095) + (ushr64 (and64 (((and64 (v0 - (and64 (ushr64 v0 1) 6148914691236517205)) 3689348814741910323) + (and64 (ushr64 (v0 - (and64 (ushr64 v0 1) 6148914691236517205)) 2) 3689348814741910323)) + (ushr64 ((and64 (v0 - (and64 (ushr64 v0 1) 6148914691236517205)) 3689348814741910323) + (and64 (ushr64 (v0 - (and64 (ushr64 v0 1) 6148914691236517205)) 2) 3689348814741910323)) 4)) 1085102592571150095) 8)) 16)) 32))) 127)]) (h1 := h) rfl ?_
  exact A_reti hM.1 rfl rfl rfl (hq (and32 (l2i ((((and64 (((and64 (v0 - (and64 (ushr64 v0 1) 6148914691236517205)) 3689348814741910323) + (and64 (ushr64 (v0 - (and64 (ushr64 v0 1) 6148914691236517205)) 2) 3689348814741910323)) + (ushr64 ((and64 (v0 - (and64 (ushr64 v0 1) 6148914691236517205)) 3689348814741910323) + (and64 (ushr64 (v0 - (and64 (ushr64 v0 1) 6148914691236517205)) 2) 3689348814741910323)) 4)) 1085102592571150095) + (ushr64 (and64 (((and64 (v0 - (and64 (ushr64 v0 1) 6148914691236517205)) 3689348814741910323) + (and64 (ushr64 (v0 - (and64 (ushr64 v0 1) 6148914691236517205)) 2) 3689348814741910323)) + (ushr64 ((and64 (v0 - (and64 (ushr64 v0 1) 6148914691236517205)) 3689348814741910323) + (and64 (ushr64 (v0 - (and64 (ushr64 v0 1) 6148914691236517205)) 2) 3689348814741910323)) 4)) 1085102592571150095) 8)) + (ushr64 ((and64 (((and64 (v0 - (and64 (ushr64 v0 1) 6148914691236517205)) 3689348814741910323) + (and64 (ushr64 (v0 - (and64 (ushr64 v0 1) 6148914691236517205)) 2) 3689348814741910323)) + (ushr64 ((and64 (v0 - (and64 (ushr64 v0 1) 6148914691236517205)) 3689348814741910323) + (and64 (ushr64 (v0 - (and64 (ushr64 v0 1) 6148914691236517205)) 2) 3689348814741910323)) 4)) 1085102592571150095) + (ushr64 (and64 (((and64 (v0 - (and64 (ushr64 v0 1) 6148914691236517205)) 3689348814741910323) + (and64 (ushr64 (v0 - (and64 (ushr64 v0 1) 6148914691236517205)) 2) 3689348814741910323)) + (ushr64 ((and64 (v0 - (and64 (ushr64 v0 1) 6148914691236517205)) 3689348814741910323) + (and64 (ushr64 (v0 - (and64 (ushr64 v0 1) 6148914691236517205)) 2) 3689348814741910323)) 4)) 1085102592571150095) 8)) 16)) + (ushr64 (((and64 (((and64 (v0 - (and64 (ushr64 v0 1) 6148914691236517205)) 3689348814741910323) + (and64 (ushr64 (v0 - (and64 (ushr64 v0 1) 6148914691236517205)) 2) 3689348814741910323)) + (ushr64 ((and64 (v0 - (and64 (ushr64 v0 1) 6148914691236517205)) 3689348814741910323) + (and64 (ushr64 (v0 - (and64 (ushr64 v0 1) 6148914691236517205)) 2) 3689348814741910323)) 4)) 1085102592571150095) + (ushr64 (and64 (((and64 (v0 - (and64 (ushr64 v0 1) 6148914691236517205)) 3689348814741910323) + (and64 (ushr64 (v0 - (and64 (ushr64 v0 1) 6148914691236517205)) 2) 3689348814741910323)) + (ushr64 ((and64 (v0 - (and64 (ushr64 v0 1) 6148914691236517205)) 3689348814741910323) + (and64 (ushr64 (v0 - (and64 (ushr64 v0 1) 6148914691236517205)) 2) 3689348814741910323)) 4)) 1085102592571150095) 8)) + (ushr64 ((and64 (((and64 (v0 - (and64 (ushr64 v0 1) 6148914691236517205)) 3689348814741910323) + (and64 (ushr64 (v0 - (and64 (ushr64 v0 1) 6148914691236517205)) 2) 3689348814741910323)) + (ushr64 ((and64 (v0 - (and64 (ushr64 v0 1) 6148914691236517205)) 3689348814741910323) + (and64 (ushr64 (v0 - (and64 (ushr64 v0 1) 6148914691236517205)) 2) 3689348814741910323)) 4)) 1085102592571150095) + (ushr64 (and64 (((and64 (v0 - (and64 (ushr64 v0 1) 6148914691236517205)) 3689348814741910323) + (and64 (ushr64 (v0 - (and64 (ushr64 v0 1) 6148914691236517205)) 2) 3689348814741910323)) + (ushr64 ((and64 (v0 - (and64 (ushr64 v0 1) 6148914691236517205)) 3689348814741910323) + (and64 (ushr64 (v0 - (and64 (ushr64 v0 1) 6148914691236517205)) 2) 3689348814741910323)) 4)) 1085102592571150095) 8)) 16)) 32))) 127) hh)

set_option maxRecDepth 20000 in
set_option maxHeartbeats 4000000 in
theorem ct_J13_bitCount {G : Gx} (v0 : Int) (h : Hp)  {P : Int → Prop} (hh : OK (J13_bitCount v0) P) : CT G yJ13_bitCount_95d88 M_J13_bitCount 1 0 0 FN h [aL v0] (fun r F' h' => F' = FN ∧ ∃ z, r = some (aI z) ∧ h' = h ∧ P z) :=
  CT.of (by decide +kernel) rfl (Nat.le_of_ble_eq_true rfl) k_J13_bitCount fun k0 _ _ hM => c_J13_bitCount hM v0 h (fun z hz => ⟨rfl, z, rfl, rfl, hz⟩) hh

theorem mi_X8_places : MIv yX8_places M_X8_places 0 := ⟨⟨(mem_GW 1148 (by decide +kernel) rfl), (mem_GW 131 (by decide +kernel) rfl), by decide +kernel, by decide +kernel, by decide +kernel, by decide⟩, (mem_GW 1146 (by decide +kernel) rfl), (mem_GW 1147 (by decide +kernel) rfl)⟩
set_option maxRecDepth 20000 in
set_option maxHeartbeats 4000000 in
theorem c_X8_places {k0 : K0} {G : Gx} {Qp : Option AV → Fx → Hp → Prop} (hM : MB (KM k0 0 0 Qp) G M_X8_places 1) (s : Nat) (h : Hp)  (ht : s ∈ spL) {P : Int → Prop} (hq : ∀ z : Int, P z → Qp (some (aL z)) FN h) (hh : OK (X8_places s h) P) : ATk (KM k0 0 0 Qp) FN 0 0 M_X8_places 0 [some (aR s)] [] h := by
  unfold X8_places at hh
  refine A_blk hM.1 1 (lv1 := [some (aR s)]) (s1 := [aR s]) (h1 := h) rfl ?_
  refine A_gl hM.1 rfl rfl rfl (sp_k0 ht) (sp_l0 ht) rfl ?_
  exact A_retl hM.1 rfl rfl rfl (hq (h s 3) hh)

set_option maxRecDepth 20000 in
set_option maxHeartbeats 4000000 in
theorem ct_X8_places {G : Gx} (s : Nat) (h : Hp)  (ht : s ∈ spL) {P : Int → Prop} (hh : OK (X8_places s h) P) : CT G yX8_places M_X8_places 1 0 0 FN h [aR s] (fun r F' h' => F' = FN ∧ ∃ z, r = some (aL z) ∧ h' = h ∧ P z) :=
  CT.of (by decide +kernel) rfl (Nat.le_of_ble_eq_true rfl) k_X8_places fun k0 _ _ hM => c_X8_places hM s h ht (fun z hz => ⟨rfl, z, rfl, rfl, hz⟩) hh

theorem mi_X11_slips : MIv yX11_slips M_X11_slips 3 := ⟨⟨(mem_GW 1096 (by decide +kernel) rfl), (mem_GW 123 (by decide +kernel) rfl), by decide +kernel, by decide +kernel, by decide +kernel, by decide⟩, (mem_GW 1094 (by decide +kernel) rfl), (mem_GW 1095 (by decide +kernel) rfl)⟩
set_option maxRecDepth 20000 in
set_option maxHeartbeats 4000000 in
theorem c_X11_slips {k0 : K0} {G : Gx} {Qp : Option AV → Fx → Hp → Prop} (hM : MB (KM k0 0 0 Qp) G M_X11_slips 7) (v1 : Int) (v2 : Int) (v3 : Int) (h : Hp)   {P : (Int × Hp) → Prop} (hq : ∀ z : Int × Hp, P z → Qp (some (aL z.1)) FN z.2) (hh : OK (X11_slips v1 v2 v3 h) P) : ATk (KM k0 0 0 Qp) FN 0 0 M_X11_slips 0 [some (aR 0), some (aI v1), some (aI v2), some (aI v3), none] [] h := by
  unfold X11_slips at hh
  refine A_blk hM.1 3 (lv1 := [some (aR 0), some (aI v1), some (aI v2), some (aI v3), none]) (s1 := [aI v1, aR 3]) (h1 := h) rfl ?_
  refine A_callV hM rfl rfl (mem_GW 665 (by decide +kernel) rfl) mi_X7_isWriter (As := [aI v1]) (rest := []) (ct_X7_isWriter v1 h (OK_bind hh)) (by decide) ⟨Nat.zero_le _, Nat.zero_le _⟩ rfl rfl (Nat.le_of_ble_eq_true rfl) (by decide) rfl (by decide) rfl (fun r F' h' hq1 => ?_)
  obtain ⟨rfl, r1, rfl, e9, hh⟩ := hq1
  subst h'
  refine A_ifc hM.1 rfl rfl (fun hc => ?_) (fun hc => ?_)
  · replace hh := OK_t hh hc
    refine A_blk hM.1 1 (lv1 := [some (aR 0), some (aI v1), some (aI v2), some (aI v3), none]) (s1 := [aL (-1)]) (h1 := h) rfl ?_
    exact A_retl hM.1 rfl rfl rfl (hq ((-1), h) hh)
  · replace hh := OK_f hh hc
    refine A_blk hM.1 3 (lv1 := [some (aR 0), some (aI v1), some (aI v2), some (aI v3), none]) (s1 := [aI v2, aR 3]) (h1 := h) rfl ?_
    refine A_callV hM rfl rfl (mem_GW 636 (by decide +kernel) rfl) mi_X7_isLeft (As := [aI v2]) (rest := []) (ct_X7_isLeft v2 h (OK_bind hh)) (by decide) ⟨Nat.zero_le _, Nat.zero_le _⟩ rfl rfl (Nat.le_of_ble_eq_true rfl) (by decide) rfl (by decide) rfl (fun r F' h' hq1 => ?_)
    obtain ⟨rfl, r2, rfl, e9, hh⟩ := hq1
    subst h'
    refine A_ifc hM.1 rfl rfl (fun hc => ?_) (fun hc => ?_)
    · replace hh := OK_t hh hc
      refine A_blk hM.1 4 (lv1 := [some (aR 0), some (aI v1), some (aI v2), some (aI v3), none]) (s1 := [aI v2, aI v1, aR 61]) (h1 := h) rfl ?_
      refine A_callV hM rfl rfl (mem_GW 1097 (by decide +kernel) rfl) mi_X2_slipsOf (As := [aI v1, aI v2]) (rest := []) (ct_X2_slipsOf v1 v2 h (OK_bind hh)) (by decide) ⟨Nat.zero_le _, Nat.zero_le _⟩ rfl rfl (Nat.le_of_ble_eq_true rfl) (by decide) rfl (by decide) rfl (fun r F' h' hq1 => ?_)
      obtain ⟨rfl, r3, rfl, e9, hh⟩ := hq1
      subst h'
      obtain ⟨g4, hh⟩ := OK_g hh
      rw [g4]
      refine A_blk hM.1 2 (lv1 := [some (aR 0), some (aI v1), some (aI v2), some (aI v3), some (aR 62)]) (s1 := [aI v3]) (h1 := r3.2) rfl ?_
      refine A_tsw hM.1 rfl [(0, 20), (1, 25), (2, 30), (3, 33)] 36 (by decide +kernel) ?_
      refine ⟨fun hc => ?_, fun hc => ?_⟩
      · replace hh := OK_t hh hc
        refine A_blk hM.1 1 (lv1 := [some (aR 0), some (aI v1), some (aI v2), some (aI v3), some (aR 62)]) (s1 := [aR 62]) (h1 := r3.2) rfl ?_
        refine A_callV hM rfl rfl (mem_GW 1135 (by decide +kernel) rfl) mi_X8_marks (As := []) (rest := []) (ct_X8_marks 62 r3.2 (by decide) (OK_bind hh)) (by decide) ⟨Nat.zero_le _, Nat.zero_le _⟩ rfl rfl (Nat.le_of_ble_eq_true rfl) (by decide) rfl (by decide) rfl (fun r F' h' hq1 => ?_)
        obtain ⟨rfl, r5, rfl, e9, hh⟩ := hq1
        subst h'
        refine A_callS hM rfl rfl (mem_GW 1139 (by decide +kernel) rfl) mi_J13_bitCount ms_J13_bitCount (As := [aL r5]) (rest := []) (ct_J13_bitCount r5 r3.2 (OK_bind hh)) (by decide) ⟨Nat.zero_le _, Nat.zero_le _⟩ rfl rfl (Nat.le_of_ble_eq_true rfl) (fun r F' h' hq1 => ?_)
        obtain ⟨rfl, r6, rfl, e9, hh⟩ := hq1
        subst h'
        refine A_blk hM.1 1 (lv1 := [some (aR 0), some (aI v1), some (aI v2), some (aI v3), some (aR 62)]) (s1 := [aL (w32 r6)]) (h1 := r3.2) rfl ?_
        exact A_retl hM.1 rfl rfl rfl (hq (w32 r6, r3.2) hh)
      replace hh := OK_f hh hc
      refine ⟨fun hc => ?_, fun hc => ?_⟩
      · replace hh := OK_t hh hc
        refine A_blk hM.1 1 (lv1 := [some (aR 0), some (aI v1), some (aI v2), some (aI v3), some (aR 62)]) (s1 := [aR 62]) (h1 := r3.2) rfl ?_
        refine A_callV hM rfl rfl (mem_GW 1145 (by decide +kernel) rfl) mi_X8_places (As := []) (rest := []) (ct_X8_places 62 r3.2 (by decide) (OK_bind hh)) (by decide) ⟨Nat.zero_le _, Nat.zero_le _⟩ rfl rfl (Nat.le_of_ble_eq_true rfl) (by decide) rfl (by decide) rfl (fun r F' h' hq1 => ?_)
        obtain ⟨rfl, r7, rfl, e9, hh⟩ := hq1
        subst h'
        refine A_callS hM rfl rfl (mem_GW 1139 (by decide +kernel) rfl) mi_J13_bitCount ms_J13_bitCount (As := [aL r7]) (rest := []) (ct_J13_bitCount r7 r3.2 (OK_bind hh)) (by decide) ⟨Nat.zero_le _, Nat.zero_le _⟩ rfl rfl (Nat.le_of_ble_eq_true rfl) (fun r F' h' hq1 => ?_)
        obtain ⟨rfl, r8, rfl, e9, hh⟩ := hq1
        subst h'
        refine A_blk hM.1 1 (lv1 := [some (aR 0), some (aI v1), some (aI v2), some (aI v3), some (aR 62)]) (s1 := [aL (w32 r8)]) (h1 := r3.2) rfl ?_
        exact A_retl hM.1 rfl rfl rfl (hq (w32 r8, r3.2) hh)
      replace hh := OK_f hh hc
      refine ⟨fun hc => ?_, fun hc => ?_⟩
      · replace hh := OK_t hh hc
        refine A_blk hM.1 1 (lv1 := [some (aR 0), some (aI v1), some (aI v2), some (aI v3), some (aR 62)]) (s1 := [aR 62]) (h1 := r3.2) rfl ?_
        refine A_callV hM rfl rfl (mem_GW 1145 (by decide +kernel) rfl) mi_X8_places (As := []) (rest := []) (ct_X8_places 62 r3.2 (by decide) (OK_bind hh)) (by decide) ⟨Nat.zero_le _, Nat.zero_le _⟩ rfl rfl (Nat.le_of_ble_eq_true rfl) (by decide) rfl (by decide) rfl (fun r F' h' hq1 => ?_)
        obtain ⟨rfl, r9, rfl, e9, hh⟩ := hq1
        subst h'
        exact A_retl hM.1 rfl rfl rfl (hq (r9, r3.2) hh)
      replace hh := OK_f hh hc
      refine ⟨fun hc => ?_, fun hc => ?_⟩
      · replace hh := OK_t hh hc
        refine A_blk hM.1 1 (lv1 := [some (aR 0), some (aI v1), some (aI v2), some (aI v3), some (aR 62)]) (s1 := [aR 62]) (h1 := r3.2) rfl ?_
        refine A_callV hM rfl rfl (mem_GW 1135 (by decide +kernel) rfl) mi_X8_marks (As := []) (rest := []) (ct_X8_marks 62 r3.2 (by decide) (OK_bind hh)) (by decide) ⟨Nat.zero_le _, Nat.zero_le _⟩ rfl rfl (Nat.le_of_ble_eq_true rfl) (by decide) rfl (by decide) rfl (fun r F' h' hq1 => ?_)
        obtain ⟨rfl, r10, rfl, e9, hh⟩ := hq1
        subst h'
        exact A_retl hM.1 rfl rfl rfl (hq (r10, r3.2) hh)
      replace hh := OK_f hh hc
      refine A_blk hM.1 1 (lv1 := [some (aR 0), some (aI v1), some (aI v2), some (aI v3), some (aR 62)]) (s1 := [aL (-1)]) (h1 := r3.2) rfl ?_
      exact A_retl hM.1 rfl rfl rfl (hq ((-1), r3.2) hh)
    · replace hh := OK_f hh hc
      refine A_blk hM.1 1 (lv1 := [some (aR 0), some (aI v1), some (aI v2), some (aI v3), none]) (s1 := [aL (-1)]) (h1 := h) rfl ?_
      exact A_retl hM.1 rfl rfl rfl (hq ((-1), h) hh)

set_option maxRecDepth 20000 in
set_option maxHeartbeats 4000000 in
theorem ct_X11_slips {G : Gx} (v1 : Int) (v2 : Int) (v3 : Int) (h : Hp)   {P : (Int × Hp) → Prop} (hh : OK (X11_slips v1 v2 v3 h) P) : CT G yX11_slips M_X11_slips 7 0 0 FN h [aR 0, aI v1, aI v2, aI v3] (fun r F' h' => F' = FN ∧ ∃ z, r = some (aL z.1) ∧ h' = z.2 ∧ P z) :=
  CT.of (by decide +kernel) rfl (Nat.le_of_ble_eq_true rfl) k_X11_slips fun k0 _ _ hM => c_X11_slips hM v1 v2 v3 h (fun z hz => ⟨rfl, z, rfl, rfl, hz⟩) hh

theorem mi_X8_isAt : MIv yX8_isAt M_X8_isAt 1 := ⟨⟨(mem_GW 1160 (by decide +kernel) rfl), (mem_GW 131 (by decide +kernel) rfl), by decide +kernel, by decide +kernel, by decide +kernel, by decide⟩, (mem_GW 1158 (by decide +kernel) rfl), (mem_GW 1159 (by decide +kernel) rfl)⟩
set_option maxRecDepth 20000 in
set_option maxHeartbeats 4000000 in
theorem c_X8_isAt {k0 : K0} {G : Gx} {Qp : Option AV → Fx → Hp → Prop} (hM : MB (KM k0 0 0 Qp) G M_X8_isAt 2) (s : Nat) (v1 : Int) (h : Hp)  (ht : s ∈ spL) {P : Int → Prop} (hq : ∀ z : Int, P z → Qp (some (aI z)) FN h) (hh : OK (X8_isAt s v1 h) P) : ATk (KM k0 0 0 Qp) FN 0 0 M_X8_isAt 0 [some (aR s), some (aI v1)] [] h := by
  unfold X8_isAt at hh
  refine A_blk hM.1 1 (lv1 := [some (aR s), some (aI v1)]) (s1 := [aR s]) (h1 := h) rfl ?_
  refine A_gl hM.1 rfl rfl rfl (sp_k0 ht) (sp_l0 ht) rfl ?_
  refine A_blk hM.1 1 (lv1 := [some (aR s), some (aI v1)]) (s1 := [aI v1, aL (h s 4)]) (h1 := h) rfl ?_
  refine A_callS hM rfl rfl (mem_GW 1127 (by decide +kernel) rfl) mi_X8_isIn ms_X8_isIn (As := [aL (h s 4), aI v1]) (rest := []) (ct_X8_isIn (h s 4) v1 h (OK_bind hh)) (by decide) ⟨Nat.zero_le _, Nat.zero_le _⟩ rfl rfl (Nat.le_of_ble_eq_true rfl) (fun r F' h' hq1 => ?_)
  obtain ⟨rfl, r1, rfl, e9, hh⟩ := hq1
  subst h'
  obtain ⟨hz2, hh⟩ := OK_g hh
  exact A_retz hM.1 rfl rfl rfl hz2 (hq r1 hh)

set_option maxRecDepth 20000 in
set_option maxHeartbeats 4000000 in
theorem ct_X8_isAt {G : Gx} (s : Nat) (v1 : Int) (h : Hp)  (ht : s ∈ spL) {P : Int → Prop} (hh : OK (X8_isAt s v1 h) P) : CT G yX8_isAt M_X8_isAt 2 0 0 FN h [aR s, aI v1] (fun r F' h' => F' = FN ∧ ∃ z, r = some (aI z) ∧ h' = h ∧ P z) :=
  CT.of (by decide +kernel) rfl (Nat.le_of_ble_eq_true rfl) k_X8_isAt fun k0 _ _ hM => c_X8_isAt hM s v1 h ht (fun z hz => ⟨rfl, z, rfl, rfl, hz⟩) hh

theorem mi_X8_wordPut : MIv yX8_wordPut M_X8_wordPut 1 := ⟨⟨(mem_GW 1156 (by decide +kernel) rfl), (mem_GW 131 (by decide +kernel) rfl), by decide +kernel, by decide +kernel, by decide +kernel, by decide⟩, (mem_GW 1154 (by decide +kernel) rfl), (mem_GW 1155 (by decide +kernel) rfl)⟩
set_option maxRecDepth 20000 in
set_option maxHeartbeats 4000000 in
theorem c_X8_wordPut {k0 : K0} {G : Gx} {Qp : Option AV → Fx → Hp → Prop} (hM : MB (KM k0 0 0 Qp) G M_X8_wordPut 3) (s : Nat) (v1 : Int) (h : Hp)  (ht : s ∈ spL) {P : Int → Prop} (hq : ∀ z : Int, P z → Qp (some (aI z)) FN h) (hh : OK (X8_wordPut s v1 h) P) : ATk (KM k0 0 0 Qp) FN 0 0 M_X8_wordPut 0 [some (aR s), some (aI v1)] [] h := by
  unfold X8_wordPut at hh
  refine A_blk hM.1 2 (lv1 := [some (aR s), some (aI v1)]) (s1 := [aI v1, aR s]) (h1 := h) rfl ?_
  refine A_callV hM rfl rfl (mem_GW 1157 (by decide +kernel) rfl) mi_X8_isAt (As := [aI v1]) (rest := []) (ct_X8_isAt s v1 h ht (OK_bind hh)) (by decide) ⟨Nat.zero_le _, Nat.zero_le _⟩ rfl rfl (Nat.le_of_ble_eq_true rfl) (sp_l0 ht) (sp_k0 ht) (by decide) rfl (fun r F' h' hq1 => ?_)
  obtain ⟨rfl, r1, rfl, e9, hh⟩ := hq1
  subst h'
  refine A_ifc hM.1 rfl rfl (fun hc => ?_) (fun hc => ?_)
  · replace hh := OK_t hh hc
    refine A_blk hM.1 1 (lv1 := [some (aR s), some (aI v1)]) (s1 := [aI (-1)]) (h1 := h) rfl ?_
    exact A_reti hM.1 rfl rfl rfl (hq (-1) hh)
  · replace hh := OK_f hh hc
    refine A_blk hM.1 1 (lv1 := [some (aR s), some (aI v1)]) (s1 := [aR s]) (h1 := h) rfl ?_
    refine A_gr hM.1 rfl rfl rfl (sp_k0 ht) (sp_l0 ht) (Nat.lt_trans (sp_l1 ht) NF_lt) (sp_r2 ht) rfl ?_
    refine A_blk hM.1 1 (lv1 := [some (aR s), some (aI v1)]) (s1 := [aI v1, aR (s + 1)]) (h1 := h) rfl ?_
    refine A_callSN (host := "QuotedBooks") hM rfl rfl (mem_NW 1161 (by decide +kernel) rfl) mi_X11_at ms_X11_at (As := [aR (s + 1), aI v1]) (rest := []) (ct_X11_at (s + 1) 40 v1 h (sp_k1 ht) (sp_n1 ht) (OK_bind hh)) (by decide) ⟨Nat.zero_le _, Nat.zero_le _⟩ rfl rfl (Nat.le_of_ble_eq_true rfl) (fun r F' h' hq1 => ?_)
    obtain ⟨rfl, r2, rfl, e9, hh⟩ := hq1
    subst h'
    refine A_go hM.1 rfl rfl ?_
    exact A_reti hM.1 rfl rfl rfl (hq r2 hh)

set_option maxRecDepth 20000 in
set_option maxHeartbeats 4000000 in
theorem ct_X8_wordPut {G : Gx} (s : Nat) (v1 : Int) (h : Hp)  (ht : s ∈ spL) {P : Int → Prop} (hh : OK (X8_wordPut s v1 h) P) : CT G yX8_wordPut M_X8_wordPut 3 0 0 FN h [aR s, aI v1] (fun r F' h' => F' = FN ∧ ∃ z, r = some (aI z) ∧ h' = h ∧ P z) :=
  CT.of (by decide +kernel) rfl (Nat.le_of_ble_eq_true rfl) k_X8_wordPut fun k0 _ _ hM => c_X8_wordPut hM s v1 h ht (fun z hz => ⟨rfl, z, rfl, rfl, hz⟩) hh

theorem mi_X11_slip : MIv yX11_slip M_X11_slip 3 := ⟨⟨(mem_GW 1152 (by decide +kernel) rfl), (mem_GW 123 (by decide +kernel) rfl), by decide +kernel, by decide +kernel, by decide +kernel, by decide⟩, (mem_GW 1150 (by decide +kernel) rfl), (mem_GW 1151 (by decide +kernel) rfl)⟩
set_option maxRecDepth 20000 in
set_option maxHeartbeats 4000000 in
theorem c_X11_slip {k0 : K0} {G : Gx} {Qp : Option AV → Fx → Hp → Prop} (hM : MB (KM k0 0 0 Qp) G M_X11_slip 7) (v1 : Int) (v2 : Int) (v3 : Int) (h : Hp)   {P : (Int × Hp) → Prop} (hq : ∀ z : Int × Hp, P z → Qp (some (aI z.1)) FN z.2) (hh : OK (X11_slip v1 v2 v3 h) P) : ATk (KM k0 0 0 Qp) FN 0 0 M_X11_slip 0 [some (aR 0), some (aI v1), some (aI v2), some (aI v3)] [] h := by
  unfold X11_slip at hh
  refine A_blk hM.1 3 (lv1 := [some (aR 0), some (aI v1), some (aI v2), some (aI v3)]) (s1 := [aI v1, aR 3]) (h1 := h) rfl ?_
  refine A_callV hM rfl rfl (mem_GW 665 (by decide +kernel) rfl) mi_X7_isWriter (As := [aI v1]) (rest := []) (ct_X7_isWriter v1 h (OK_bind hh)) (by decide) ⟨Nat.zero_le _, Nat.zero_le _⟩ rfl rfl (Nat.le_of_ble_eq_true rfl) (by decide) rfl (by decide) rfl (fun r F' h' hq1 => ?_)
  obtain ⟨rfl, r1, rfl, e9, hh⟩ := hq1
  subst h'
  refine A_ifc hM.1 rfl rfl (fun hc => ?_) (fun hc => ?_)
  · replace hh := OK_t hh hc
    refine A_blk hM.1 1 (lv1 := [some (aR 0), some (aI v1), some (aI v2), some (aI v3)]) (s1 := [aI (-1)]) (h1 := h) rfl ?_
    exact A_reti hM.1 rfl rfl rfl (hq ((-1), h) hh)
  · replace hh := OK_f hh hc
    refine A_blk hM.1 3 (lv1 := [some (aR 0), some (aI v1), some (aI v2), some (aI v3)]) (s1 := [aI v2, aR 3]) (h1 := h) rfl ?_
    refine A_callV hM rfl rfl (mem_GW 636 (by decide +kernel) rfl) mi_X7_isLeft (As := [aI v2]) (rest := []) (ct_X7_isLeft v2 h (OK_bind hh)) (by decide) ⟨Nat.zero_le _, Nat.zero_le _⟩ rfl rfl (Nat.le_of_ble_eq_true rfl) (by decide) rfl (by decide) rfl (fun r F' h' hq1 => ?_)
    obtain ⟨rfl, r2, rfl, e9, hh⟩ := hq1
    subst h'
    refine A_ifc hM.1 rfl rfl (fun hc => ?_) (fun hc => ?_)
    · replace hh := OK_t hh hc
      refine A_blk hM.1 4 (lv1 := [some (aR 0), some (aI v1), some (aI v2), some (aI v3)]) (s1 := [aI v2, aI v1, aR 61]) (h1 := h) rfl ?_
      refine A_callV hM rfl rfl (mem_GW 1097 (by decide +kernel) rfl) mi_X2_slipsOf (As := [aI v1, aI v2]) (rest := []) (ct_X2_slipsOf v1 v2 h (OK_bind hh)) (by decide) ⟨Nat.zero_le _, Nat.zero_le _⟩ rfl rfl (Nat.le_of_ble_eq_true rfl) (by decide) rfl (by decide) rfl (fun r F' h' hq1 => ?_)
      obtain ⟨rfl, r3, rfl, e9, hh⟩ := hq1
      subst h'
      obtain ⟨g4, hh⟩ := OK_g hh
      rw [g4]
      refine A_blk hM.1 1 (lv1 := [some (aR 0), some (aI v1), some (aI v2), some (aI v3)]) (s1 := [aI v3, aR 62]) (h1 := r3.2) rfl ?_
      refine A_callV hM rfl rfl (mem_GW 1153 (by decide +kernel) rfl) mi_X8_wordPut (As := [aI v3]) (rest := []) (ct_X8_wordPut 62 v3 r3.2 (by decide) (OK_bind hh)) (by decide) ⟨Nat.zero_le _, Nat.zero_le _⟩ rfl rfl (Nat.le_of_ble_eq_true rfl) (by decide) rfl (by decide) rfl (fun r F' h' hq1 => ?_)
      obtain ⟨rfl, r5, rfl, e9, hh⟩ := hq1
      subst h'
      exact A_reti hM.1 rfl rfl rfl (hq (r5, r3.2) hh)
    · replace hh := OK_f hh hc
      refine A_blk hM.1 1 (lv1 := [some (aR 0), some (aI v1), some (aI v2), some (aI v3)]) (s1 := [aI (-1)]) (h1 := h) rfl ?_
      exact A_reti hM.1 rfl rfl rfl (hq ((-1), h) hh)

set_option maxRecDepth 20000 in
set_option maxHeartbeats 4000000 in
theorem ct_X11_slip {G : Gx} (v1 : Int) (v2 : Int) (v3 : Int) (h : Hp)   {P : (Int × Hp) → Prop} (hh : OK (X11_slip v1 v2 v3 h) P) : CT G yX11_slip M_X11_slip 7 0 0 FN h [aR 0, aI v1, aI v2, aI v3] (fun r F' h' => F' = FN ∧ ∃ z, r = some (aI z.1) ∧ h' = z.2 ∧ P z) :=
  CT.of (by decide +kernel) rfl (Nat.le_of_ble_eq_true rfl) k_X11_slip fun k0 _ _ hM => c_X11_slip hM v1 v2 v3 h (fun z hz => ⟨rfl, z, rfl, rfl, hz⟩) hh

