set_option linter.all false
theorem mi_X11_truth : MIv yX11_truth M_X11_truth 3 := ⟨⟨(mem_GW 1380 (by decide +kernel) rfl), (mem_GW 123 (by decide +kernel) rfl), by decide +kernel, by decide +kernel, by decide +kernel, by decide⟩, (mem_GW 1378 (by decide +kernel) rfl), (mem_GW 1379 (by decide +kernel) rfl)⟩
set_option maxRecDepth 20000 in
set_option maxHeartbeats 4000000 in
theorem c_X11_truth_j41 {k0 : K0} {G : Gx} {Qp : Option AV → Fx → Hp → Prop} (hM : MB (KM k0 0 0 Qp) G M_X11_truth 6) (v1 : Int) (v3 : Int) (v4 : Int) (v6 : Int) (h : Hp)   {P : ((Int × Hp) ⊕ ((Hp) ⊕ (Hp))) → Prop} (hin : ∀ y : Int × Hp, P (.inl y) → ATk (KM k0 0 0 Qp) FN 0 0 M_X11_truth 22 [some (aR 0), some (aL v1), none, some (aI v3), some (aI v4), none, some (aI y.1), none, none] [] y.2) (hout0 : ∀ y : Hp, P (.inr (.inl y)) → ATk (KM k0 0 0 Qp) FN 0 0 M_X11_truth 39 [none, none, none, none, none, none, none, none, none] [] y) (hout1 : ∀ y : Hp, P (.inr (.inr y)) → ATk (KM k0 0 0 Qp) FN 0 0 M_X11_truth 43 [some (aR 0), some (aL v1), none, some (aI v3), some (aI v4), none, none, none, none] [] y) (hh : OK (X11_truth_j41 v1 v3 v4 v6 h) P) : ATk (KM k0 0 0 Qp) FN 0 0 M_X11_truth 41 [some (aR 0), some (aL v1), none, some (aI v3), some (aI v4), none, some (aI v6), none, none] [] h := by
  unfold X11_truth_j41 at hh
  refine A_blk hM.1 1 (lv1 := [some (aR 0), some (aL v1), none, some (aI v3), some (aI v4), none, some (aI (v6 + 1)), none, none]) (s1 := []) (h1 := h) rfl ?_
  refine A_go hM.1 rfl rfl ?_
  exact hin (v6 + 1, h) hh

set_option maxRecDepth 20000 in
set_option maxHeartbeats 4000000 in
theorem c_X11_truth_l22 {k0 : K0} {G : Gx} {Qp : Option AV → Fx → Hp → Prop} (hM : MB (KM k0 0 0 Qp) G M_X11_truth 6) (v1 : Int) (v3 : Int) (v4 : Int) (x : Int × Hp)   {P : ((Int × Hp) ⊕ ((Hp) ⊕ (Hp))) → Prop} (hin : ∀ y : Int × Hp, P (.inl y) → ATk (KM k0 0 0 Qp) FN 0 0 M_X11_truth 22 [some (aR 0), some (aL v1), none, some (aI v3), some (aI v4), none, some (aI y.1), none, none] [] y.2) (hout0 : ∀ y : Hp, P (.inr (.inl y)) → ATk (KM k0 0 0 Qp) FN 0 0 M_X11_truth 39 [none, none, none, none, none, none, none, none, none] [] y) (hout1 : ∀ y : Hp, P (.inr (.inr y)) → ATk (KM k0 0 0 Qp) FN 0 0 M_X11_truth 43 [some (aR 0), some (aL v1), none, some (aI v3), some (aI v4), none, none, none, none] [] y) (hh : OK (X11_truth_l22 v1 v3 v4 x) P) : ATk (KM k0 0 0 Qp) FN 0 0 M_X11_truth 22 [some (aR 0), some (aL v1), none, some (aI v3), some (aI v4), none, some (aI x.1), none, none] [] x.2 := by
  unfold X11_truth_l22 at hh
  refine A_blk hM.1 2 (lv1 := [some (aR 0), some (aL v1), none, some (aI v3), some (aI v4), none, some (aI x.1), none, none]) (s1 := [aI 64, aI x.1]) (h1 := x.2) rfl ?_
  refine A_icmp hM.1 rfl rfl (fun hc => ?_) (fun hc => ?_)
  · replace hh := OK_t hh hc
    refine A_mask [true, true, true, true, true, true, false, true, true] (lv1 := [some (aR 0), some (aL v1), none, some (aI v3), some (aI v4), none, none, none, none]) rfl ?_
    exact hout1 x.2 hh
  · replace hh := OK_f hh hc
    refine A_blk hM.1 7 (lv1 := [some (aR 0), some (aL v1), none, some (aI v3), some (aI v4), none, some (aI x.1), none, none]) (s1 := [aI (cmp64 (and64 (ushr64 v1 x.1) 1) 1)]) (h1 := x.2) rfl ?_
    refine A_ifc hM.1 rfl rfl (fun hc => ?_) (fun hc => ?_)
    · replace hh := OK_t hh hc
      exact c_X11_truth_j41 hM v1 v3 v4 x.1 x.2 hin hout0 hout1 hh
    · replace hh := OK_f hh hc
      refine A_blk hM.1 3 (lv1 := [some (aR 0), some (aL v1), none, some (aI v3), some (aI v4), none, some (aI x.1), none, none]) (s1 := [aI x.1, aR 3]) (h1 := x.2) rfl ?_
      refine A_callV hM rfl rfl (mem_GW 1003 (by decide +kernel) rfl) mi_X7_bitBook (As := [aI x.1]) (rest := []) (ct_X7_bitBook x.1 x.2 (OK_bind hh)) (by decide) ⟨Nat.zero_le _, Nat.zero_le _⟩ rfl rfl (Nat.le_of_ble_eq_true rfl) (by decide) rfl (by decide) rfl (fun r F' h' hq1 => ?_)
      obtain ⟨rfl, r5, rfl, e9, hh⟩ := hq1
      subst h'
      refine A_blk hM.1 1 (lv1 := [some (aR 0), some (aL v1), none, some (aI v3), some (aI v4), none, some (aI x.1), none, none]) (s1 := [aI 1, aI r5]) (h1 := x.2) rfl ?_
      refine A_icmp hM.1 rfl rfl (fun hc => ?_) (fun hc => ?_)
      · replace hh := OK_t hh hc
        exact c_X11_truth_j41 hM v1 v3 v4 x.1 x.2 hin hout0 hout1 hh
      · replace hh := OK_f hh hc
        refine A_mask [false, false, true, false, false, true, false, true, true] (lv1 := [none, none, none, none, none, none, none, none, none]) rfl ?_
        exact hout0 x.2 hh

set_option maxRecDepth 20000 in
set_option maxHeartbeats 4000000 in
theorem c_X11_truth_l55 {k0 : K0} {G : Gx} {Qp : Option AV → Fx → Hp → Prop} (hM : MB (KM k0 0 0 Qp) G M_X11_truth 6) (v1 : Int) (v3 : Int) (x : Int × Int × Hp)   {P : ((Int × Int × Hp) ⊕ (Int × Hp)) → Prop} (hin : ∀ y : Int × Int × Hp, P (.inl y) → ATk (KM k0 0 0 Qp) FN 0 0 M_X11_truth 55 [some (aR 0), some (aL v1), none, some (aI v3), none, none, some (aL y.1), none, some (aI y.2.1)] [] y.2.2) (hout0 : ∀ y : Int × Hp, P (.inr y) → ATk (KM k0 0 0 Qp) FN 0 0 M_X11_truth 68 [none, none, none, none, none, none, some (aL y.1), none, none] [] y.2) (hh : OK (X11_truth_l55 v1 v3 x) P) : ATk (KM k0 0 0 Qp) FN 0 0 M_X11_truth 55 [some (aR 0), some (aL v1), none, some (aI v3), none, none, some (aL x.1), none, some (aI x.2.1)] [] x.2.2 := by
  unfold X11_truth_l55 at hh
  refine A_blk hM.1 2 (lv1 := [some (aR 0), some (aL v1), none, some (aI v3), none, none, some (aL x.1), none, some (aI x.2.1)]) (s1 := [aI v3, aI x.2.1]) (h1 := x.2.2) rfl ?_
  refine A_icmp hM.1 rfl rfl (fun hc => ?_) (fun hc => ?_)
  · replace hh := OK_t hh hc
    refine A_mask [false, false, true, false, true, true, true, true, false] (lv1 := [none, none, none, none, none, none, some (aL x.1), none, none]) rfl ?_
    exact hout0 (x.1, x.2.2) hh
  · replace hh := OK_f hh hc
    refine A_blk hM.1 5 (lv1 := [some (aR 0), some (aL v1), none, some (aI v3), none, none, some (aL x.1), none, some (aI x.2.1)]) (s1 := [aI x.2.1, aI v3, aL v1, aR 0, aL x.1]) (h1 := x.2.2) rfl ?_
    refine A_callV hM rfl rfl (mem_GW 1381 (by decide +kernel) rfl) mi_X11_tableProduct (As := [aL v1, aI v3, aI x.2.1]) (rest := [aL x.1]) (ct_X11_tableProduct v1 v3 x.2.1 x.2.2 (OK_bind hh)) (by decide) ⟨Nat.zero_le _, Nat.zero_le _⟩ rfl rfl (Nat.le_of_ble_eq_true rfl) (by decide) rfl (by decide) rfl (fun r F' h' hq1 => ?_)
    obtain ⟨rfl, r9, rfl, e9, hh⟩ := hq1
    subst h'
    refine A_blk hM.1 3 (lv1 := [some (aR 0), some (aL v1), none, some (aI v3), none, none, some (aL (x.1 + r9.1)), none, some (aI (x.2.1 + 1))]) (s1 := []) (h1 := r9.2) rfl ?_
    refine A_go hM.1 rfl rfl ?_
    exact hin (x.1 + r9.1, x.2.1 + 1, r9.2) hh

set_option maxRecDepth 20000 in
set_option maxHeartbeats 4000000 in
theorem c_X11_truth {k0 : K0} {G : Gx} {Qp : Option AV → Fx → Hp → Prop} (hM : MB (KM k0 0 0 Qp) G M_X11_truth 6) (v1 : Int) (v3 : Int) (v4 : Int) (h : Hp)   {P : (Int × Hp) → Prop} (hq : ∀ z : Int × Hp, P z → Qp (some (aL z.1)) FN z.2) (hh : OK (X11_truth v1 v3 v4 h) P) : ATk (KM k0 0 0 Qp) FN 0 0 M_X11_truth 0 [some (aR 0), some (aL v1), none, some (aI v3), some (aI v4), none, none, none, none] [] h := by
  unfold X11_truth at hh
  refine A_blk hM.1 1 (lv1 := [some (aR 0), some (aL v1), none, some (aI v3), some (aI v4), none, none, none, none]) (s1 := [aL v1]) (h1 := h) rfl ?_
  refine A_callS hM rfl rfl (mem_GW 1139 (by decide +kernel) rfl) mi_J13_bitCount ms_J13_bitCount (As := [aL v1]) (rest := []) (ct_J13_bitCount v1 h (OK_bind hh)) (by decide) ⟨Nat.zero_le _, Nat.zero_le _⟩ rfl rfl (Nat.le_of_ble_eq_true rfl) (fun r F' h' hq1 => ?_)
  obtain ⟨rfl, r1, rfl, e9, hh⟩ := hq1
  subst h'
  refine A_blk hM.1 4 (lv1 := [some (aR 0), some (aL v1), none, some (aI v3), some (aI v4), some (aI r1), none, none, none]) (s1 := [aI 6, aI 1, aI r1]) (h1 := h) rfl ?_
  refine A_callS hM rfl rfl (mem_GW 576 (by decide +kernel) rfl) mi_X11_within ms_X11_within (As := [aI r1, aI 1, aI 6]) (rest := []) (ct_X11_within r1 1 6 h (OK_bind hh)) (by decide) ⟨Nat.zero_le _, Nat.zero_le _⟩ rfl rfl (Nat.le_of_ble_eq_true rfl) (fun r F' h' hq1 => ?_)
  obtain ⟨rfl, r2, rfl, e9, hh⟩ := hq1
  subst h'
  refine A_ifc hM.1 rfl rfl (fun hc => ?_) (fun hc => ?_)
  · replace hh := OK_t hh hc
    refine A_blk hM.1 1 (lv1 := [some (aR 0), some (aL v1), none, some (aI v3), some (aI v4), some (aI r1), none, none, none]) (s1 := [aL (-1)]) (h1 := h) rfl ?_
    exact A_retl hM.1 rfl rfl rfl (hq ((-1), h) hh)
  · replace hh := OK_f hh hc
    refine A_blk hM.1 3 (lv1 := [some (aR 0), some (aL v1), none, some (aI v3), some (aI v4), some (aI r1), none, none, none]) (s1 := [aI 40, aI 1, aI v3]) (h1 := h) rfl ?_
    refine A_callS hM rfl rfl (mem_GW 576 (by decide +kernel) rfl) mi_X11_within ms_X11_within (As := [aI v3, aI 1, aI 40]) (rest := []) (ct_X11_within v3 1 40 h (OK_bind hh)) (by decide) ⟨Nat.zero_le _, Nat.zero_le _⟩ rfl rfl (Nat.le_of_ble_eq_true rfl) (fun r F' h' hq1 => ?_)
    obtain ⟨rfl, r3, rfl, e9, hh⟩ := hq1
    subst h'
    refine A_ifc hM.1 rfl rfl (fun hc => ?_) (fun hc => ?_)
    · replace hh := OK_t hh hc
      refine A_blk hM.1 1 (lv1 := [some (aR 0), some (aL v1), none, some (aI v3), some (aI v4), some (aI r1), none, none, none]) (s1 := [aL (-1)]) (h1 := h) rfl ?_
      exact A_retl hM.1 rfl rfl rfl (hq ((-1), h) hh)
    · replace hh := OK_f hh hc
      refine A_blk hM.1 3 (lv1 := [some (aR 0), some (aL v1), none, some (aI v3), some (aI v4), some (aI r1), none, none, none]) (s1 := [aI v3, aI 0, aI v4]) (h1 := h) rfl ?_
      refine A_callS hM rfl rfl (mem_GW 576 (by decide +kernel) rfl) mi_X11_within ms_X11_within (As := [aI v4, aI 0, aI v3]) (rest := []) (ct_X11_within v4 0 v3 h (OK_bind hh)) (by decide) ⟨Nat.zero_le _, Nat.zero_le _⟩ rfl rfl (Nat.le_of_ble_eq_true rfl) (fun r F' h' hq1 => ?_)
      obtain ⟨rfl, r4, rfl, e9, hh⟩ := hq1
      subst h'
      refine A_ifc hM.1 rfl rfl (fun hc => ?_) (fun hc => ?_)
      · replace hh := OK_t hh hc
        refine A_blk hM.1 2 (lv1 := [some (aR 0), some (aL v1), none, some (aI v3), some (aI v4), some (aI r1), some (aI 0), none, none]) (s1 := []) (h1 := h) rfl ?_
        refine A_mask [true, true, true, true, true, false, true, true, true] (lv1 := [some (aR 0), some (aL v1), none, some (aI v3), some (aI v4), none, some (aI 0), none, none]) rfl ?_
        refine iter_ok (s := (0, h)) (Gp := fun z => ATk (KM k0 0 0 Qp) FN 0 0 M_X11_truth 22 [some (aR 0), some (aL v1), none, some (aI v3), some (aI v4), none, some (aI z.1), none, none] [] z.2) (E := fun z => (∀ y, z = (.inl y) → ATk (KM k0 0 0 Qp) FN 0 0 M_X11_truth 39 [none, none, none, none, none, none, none, none, none] [] y) ∧ (∀ y, z = (.inr y) → ATk (KM k0 0 0 Qp) FN 0 0 M_X11_truth 43 [some (aR 0), some (aL v1), none, some (aI v3), some (aI v4), none, none, none, none] [] y)) (fun z P1 g1 g2 g3 => c_X11_truth_l22 hM v1 v3 v4 z g2 (fun y hy => (g3 (.inl y) hy).1 y rfl) (fun y hy => (g3 (.inr y) hy).2 y rfl) g1) (OK_bind hh) (fun x6 hh => ?_)
        refine ⟨fun y e => ?_, fun y e => ?_⟩
        · obtain ⟨y7, rfl⟩ : ∃ z, z = y := ⟨_, rfl⟩
          subst e
          refine A_blk hM.1 1 (lv1 := [none, none, none, none, none, none, none, none, none]) (s1 := [aL (-1)]) (h1 := y7) rfl ?_
          exact A_retl hM.1 rfl rfl rfl (hq ((-1), y7) hh)
        · obtain ⟨y8, rfl⟩ : ∃ z, z = y := ⟨_, rfl⟩
          subst e
          refine A_blk hM.1 1 (lv1 := [some (aR 0), some (aL v1), none, some (aI v3), some (aI v4), none, none, none, none]) (s1 := [aI v4]) (h1 := y8) rfl ?_
          refine A_ifc hM.1 rfl rfl (fun hc => ?_) (fun hc => ?_)
          · replace hh := OK_t hh hc
            refine A_blk hM.1 4 (lv1 := [some (aR 0), some (aL v1), none, some (aI v3), some (aI v4), none, some (aL 0), none, some (aI 1)]) (s1 := []) (h1 := y8) rfl ?_
            refine A_mask [true, true, true, true, false, true, true, true, true] (lv1 := [some (aR 0), some (aL v1), none, some (aI v3), none, none, some (aL 0), none, some (aI 1)]) rfl ?_
            refine iter_ok (s := (0, 1, y8)) (Gp := fun z => ATk (KM k0 0 0 Qp) FN 0 0 M_X11_truth 55 [some (aR 0), some (aL v1), none, some (aI v3), none, none, some (aL z.1), none, some (aI z.2.1)] [] z.2.2) (E := fun z => ATk (KM k0 0 0 Qp) FN 0 0 M_X11_truth 68 [none, none, none, none, none, none, some (aL z.1), none, none] [] z.2) (fun z P1 g1 g2 g3 => c_X11_truth_l55 hM v1 v3 z g2 g3 g1) (OK_bind hh) (fun x10 hh => ?_)
            refine A_blk hM.1 1 (lv1 := [none, none, none, none, none, none, some (aL x10.1), none, none]) (s1 := [aL x10.1]) (h1 := x10.2) rfl ?_
            exact A_retl hM.1 rfl rfl rfl (hq (x10.1, x10.2) hh)
          · replace hh := OK_f hh hc
            refine A_blk hM.1 4 (lv1 := [some (aR 0), some (aL v1), none, some (aI v3), some (aI v4), none, none, none, none]) (s1 := [aI v4, aI v3, aL v1, aR 0]) (h1 := y8) rfl ?_
            refine A_callV hM rfl rfl (mem_GW 1381 (by decide +kernel) rfl) mi_X11_tableProduct (As := [aL v1, aI v3, aI v4]) (rest := []) (ct_X11_tableProduct v1 v3 v4 y8 (OK_bind hh)) (by decide) ⟨Nat.zero_le _, Nat.zero_le _⟩ rfl rfl (Nat.le_of_ble_eq_true rfl) (by decide) rfl (by decide) rfl (fun r F' h' hq1 => ?_)
            obtain ⟨rfl, r11, rfl, e9, hh⟩ := hq1
            subst h'
            exact A_retl hM.1 rfl rfl rfl (hq (r11.1, r11.2) hh)
      · replace hh := OK_f hh hc
        refine A_blk hM.1 1 (lv1 := [some (aR 0), some (aL v1), none, some (aI v3), some (aI v4), some (aI r1), none, none, none]) (s1 := [aL (-1)]) (h1 := h) rfl ?_
        exact A_retl hM.1 rfl rfl rfl (hq ((-1), h) hh)

set_option maxRecDepth 20000 in
set_option maxHeartbeats 4000000 in
theorem ct_X11_truth {G : Gx} (v1 : Int) (v3 : Int) (v4 : Int) (h : Hp)   {P : (Int × Hp) → Prop} (hh : OK (X11_truth v1 v3 v4 h) P) : CT G yX11_truth M_X11_truth 6 0 0 FN h [aR 0, aL v1, aI v3, aI v4] (fun r F' h' => F' = FN ∧ ∃ z, r = some (aL z.1) ∧ h' = z.2 ∧ P z) :=
  CT.of (by decide +kernel) rfl (Nat.le_of_ble_eq_true rfl) k_X11_truth fun k0 _ _ hM => c_X11_truth hM v1 v3 v4 h (fun z hz => ⟨rfl, z, rfl, rfl, hz⟩) hh

