set_option linter.all false
theorem mi_X11_tableProduct : MIv yX11_tableProduct M_X11_tableProduct 3 := ⟨⟨(mem_GW 1384 (by decide +kernel) rfl), (mem_GW 123 (by decide +kernel) rfl), by decide +kernel, by decide +kernel, by decide +kernel, by decide⟩, (mem_GW 1383 (by decide +kernel) rfl), (mem_GW 46 (by decide +kernel) rfl)⟩
set_option maxRecDepth 20000 in
set_option maxHeartbeats 4000000 in
theorem c_X11_tableProduct_j43 {k0 : K0} {G : Gx} {Qp : Option AV → Fx → Hp → Prop} (hM : MB (KM k0 0 0 Qp) G M_X11_tableProduct 5) (v1 : Int) (v5 : Int) (v7 : Int) (h : Hp)   {P : ((Int × Int × Hp) ⊕ (Int × Hp)) → Prop} (hin : ∀ y : Int × Int × Hp, P (.inl y) → ATk (KM k0 0 0 Qp) FN 0 0 M_X11_tableProduct 14 [some (aR 0), some (aL v1), none, none, none, some (aL y.1), none, some (aI y.2.1)] [] y.2.2) (hout0 : ∀ y : Int × Hp, P (.inr y) → ATk (KM k0 0 0 Qp) FN 0 0 M_X11_tableProduct 45 [none, none, none, none, none, some (aL y.1), none, none] [] y.2) (hh : OK (X11_tableProduct_j43 v1 v5 v7 h) P) : ATk (KM k0 0 0 Qp) FN 0 0 M_X11_tableProduct 43 [some (aR 0), some (aL v1), none, none, none, some (aL v5), none, some (aI v7)] [] h := by
  unfold X11_tableProduct_j43 at hh
  refine A_blk hM.1 1 (lv1 := [some (aR 0), some (aL v1), none, none, none, some (aL v5), none, some (aI (v7 + 1))]) (s1 := []) (h1 := h) rfl ?_
  refine A_go hM.1 rfl rfl ?_
  exact hin (v5, v7 + 1, h) hh

set_option maxRecDepth 20000 in
set_option maxHeartbeats 4000000 in
theorem c_X11_tableProduct_l14 {k0 : K0} {G : Gx} {Qp : Option AV → Fx → Hp → Prop} (hM : MB (KM k0 0 0 Qp) G M_X11_tableProduct 5) (v1 : Int) (x : Int × Int × Hp)   {P : ((Int × Int × Hp) ⊕ (Int × Hp)) → Prop} (hin : ∀ y : Int × Int × Hp, P (.inl y) → ATk (KM k0 0 0 Qp) FN 0 0 M_X11_tableProduct 14 [some (aR 0), some (aL v1), none, none, none, some (aL y.1), none, some (aI y.2.1)] [] y.2.2) (hout0 : ∀ y : Int × Hp, P (.inr y) → ATk (KM k0 0 0 Qp) FN 0 0 M_X11_tableProduct 45 [none, none, none, none, none, some (aL y.1), none, none] [] y.2) (hh : OK (X11_tableProduct_l14 v1 x) P) : ATk (KM k0 0 0 Qp) FN 0 0 M_X11_tableProduct 14 [some (aR 0), some (aL v1), none, none, none, some (aL x.1), none, some (aI x.2.1)] [] x.2.2 := by
  unfold X11_tableProduct_l14 at hh
  refine A_blk hM.1 2 (lv1 := [some (aR 0), some (aL v1), none, none, none, some (aL x.1), none, some (aI x.2.1)]) (s1 := [aI 40, aI x.2.1]) (h1 := x.2.2) rfl ?_
  refine A_icmp hM.1 rfl rfl (fun hc => ?_) (fun hc => ?_)
  · replace hh := OK_t hh hc
    refine A_mask [false, false, true, true, true, true, true, false] (lv1 := [none, none, none, none, none, some (aL x.1), none, none]) rfl ?_
    exact hout0 (x.1, x.2.2) hh
  · replace hh := OK_f hh hc
    refine A_blk hM.1 7 (lv1 := [some (aR 0), some (aL v1), none, none, none, some (aL x.1), none, some (aI x.2.1)]) (s1 := [aI (cmp64 (and64 (ushr64 v1 x.2.1) 1) 1)]) (h1 := x.2.2) rfl ?_
    refine A_ifc hM.1 rfl rfl (fun hc => ?_) (fun hc => ?_)
    · replace hh := OK_t hh hc
      exact c_X11_tableProduct_j43 hM v1 x.1 x.2.1 x.2.2 hin hout0 hh
    · replace hh := OK_f hh hc
      refine A_blk hM.1 6 (lv1 := [some (aR 0), some (aL v1), none, none, none, some (aL x.1), none, some (aI x.2.1)]) (s1 := [aI x.2.1, aR 3, aI 98, aR 44]) (h1 := x.2.2) rfl ?_
      refine A_callV hM rfl rfl (mem_GW 1003 (by decide +kernel) rfl) mi_X7_bitBook (As := [aI x.2.1]) (rest := [aI 98, aR 44]) (ct_X7_bitBook x.2.1 x.2.2 (OK_bind hh)) (by decide) ⟨Nat.zero_le _, Nat.zero_le _⟩ rfl rfl (Nat.le_of_ble_eq_true rfl) (by decide) rfl (by decide) rfl (fun r F' h' hq1 => ?_)
      obtain ⟨rfl, r3, rfl, e9, hh⟩ := hq1
      subst h'
      refine A_callV hM rfl rfl (mem_GW 925 (by decide +kernel) rfl) mi_X10_let (As := [aI 98, aI r3]) (rest := []) (ct_X10_let 44 98 r3 x.2.2 (by decide) (OK_bind hh)) (by decide) ⟨Nat.zero_le _, Nat.zero_le _⟩ rfl rfl (Nat.le_of_ble_eq_true rfl) (by decide) rfl (by decide) rfl (fun r F' h' hq1 => ?_)
      obtain ⟨rfl, rfl, hh⟩ := hq1
      obtain ⟨r4, rfl⟩ : ∃ z, z = h' := ⟨_, rfl⟩
      refine A_blk hM.1 6 (lv1 := [some (aR 0), some (aL v1), none, none, none, some (aL x.1), none, some (aI x.2.1)]) (s1 := [aI 100, aI 0, aI 103, aR 44, aL x.1]) (h1 := r4) rfl ?_
      refine A_callV hM rfl rfl (mem_GW 945 (by decide +kernel) rfl) mi_X10_value (As := [aI 103, aI 0, aI 100]) (rest := [aL x.1]) (ct_X10_value 44 103 0 100 r4 (by decide) (OK_bind hh)) (by decide) ⟨Nat.zero_le _, Nat.zero_le _⟩ rfl rfl (Nat.le_of_ble_eq_true rfl) (by decide) rfl (by decide) rfl (fun r F' h' hq1 => ?_)
      obtain ⟨rfl, r5, rfl, e9, hh⟩ := hq1
      subst h'
      refine A_blk hM.1 3 (lv1 := [some (aR 0), some (aL v1), none, none, none, some (aL (x.1 * (w32 r5.1))), none, some (aI x.2.1)]) (s1 := []) (h1 := r5.2) rfl ?_
      exact c_X11_tableProduct_j43 hM v1 (x.1 * (w32 r5.1)) x.2.1 r5.2 hin hout0 hh

set_option maxRecDepth 20000 in
set_option maxHeartbeats 4000000 in
theorem c_X11_tableProduct {k0 : K0} {G : Gx} {Qp : Option AV → Fx → Hp → Prop} (hM : MB (KM k0 0 0 Qp) G M_X11_tableProduct 5) (v1 : Int) (v3 : Int) (v4 : Int) (h : Hp)   {P : (Int × Hp) → Prop} (hq : ∀ z : Int × Hp, P z → Qp (some (aL z.1)) FN z.2) (hh : OK (X11_tableProduct v1 v3 v4 h) P) : ATk (KM k0 0 0 Qp) FN 0 0 M_X11_tableProduct 0 [some (aR 0), some (aL v1), none, some (aI v3), some (aI v4), none, none, none] [] h := by
  unfold X11_tableProduct at hh
  refine A_blk hM.1 6 (lv1 := [some (aR 0), some (aL v1), none, some (aI v3), some (aI v4), some (aL 1), none, none]) (s1 := [aI v4, aI 99, aR 44]) (h1 := h) rfl ?_
  refine A_callV hM rfl rfl (mem_GW 925 (by decide +kernel) rfl) mi_X10_let (As := [aI 99, aI v4]) (rest := []) (ct_X10_let 44 99 v4 h (by decide) (OK_bind hh)) (by decide) ⟨Nat.zero_le _, Nat.zero_le _⟩ rfl rfl (Nat.le_of_ble_eq_true rfl) (by decide) rfl (by decide) rfl (fun r F' h' hq1 => ?_)
  obtain ⟨rfl, rfl, hh⟩ := hq1
  obtain ⟨r1, rfl⟩ : ∃ z, z = h' := ⟨_, rfl⟩
  refine A_blk hM.1 4 (lv1 := [some (aR 0), some (aL v1), none, some (aI v3), some (aI v4), some (aL 1), none, none]) (s1 := [aI v3, aI 110, aR 44]) (h1 := r1) rfl ?_
  refine A_callV hM rfl rfl (mem_GW 925 (by decide +kernel) rfl) mi_X10_let (As := [aI 110, aI v3]) (rest := []) (ct_X10_let 44 110 v3 r1 (by decide) (OK_bind hh)) (by decide) ⟨Nat.zero_le _, Nat.zero_le _⟩ rfl rfl (Nat.le_of_ble_eq_true rfl) (by decide) rfl (by decide) rfl (fun r F' h' hq1 => ?_)
  obtain ⟨rfl, rfl, hh⟩ := hq1
  obtain ⟨r2, rfl⟩ : ∃ z, z = h' := ⟨_, rfl⟩
  refine A_blk hM.1 2 (lv1 := [some (aR 0), some (aL v1), none, some (aI v3), some (aI v4), some (aL 1), none, some (aI 0)]) (s1 := []) (h1 := r2) rfl ?_
  refine A_mask [true, true, true, false, false, true, true, true] (lv1 := [some (aR 0), some (aL v1), none, none, none, some (aL 1), none, some (aI 0)]) rfl ?_
  refine iter_ok (s := (1, 0, r2)) (Gp := fun z => ATk (KM k0 0 0 Qp) FN 0 0 M_X11_tableProduct 14 [some (aR 0), some (aL v1), none, none, none, some (aL z.1), none, some (aI z.2.1)] [] z.2.2) (E := fun z => ATk (KM k0 0 0 Qp) FN 0 0 M_X11_tableProduct 45 [none, none, none, none, none, some (aL z.1), none, none] [] z.2) (fun z P1 g1 g2 g3 => c_X11_tableProduct_l14 hM v1 z g2 g3 g1) (OK_bind hh) (fun x6 hh => ?_)
  refine A_blk hM.1 1 (lv1 := [none, none, none, none, none, some (aL x6.1), none, none]) (s1 := [aL x6.1]) (h1 := x6.2) rfl ?_
  exact A_retl hM.1 rfl rfl rfl (hq (x6.1, x6.2) hh)

set_option maxRecDepth 20000 in
set_option maxHeartbeats 4000000 in
theorem ct_X11_tableProduct {G : Gx} (v1 : Int) (v3 : Int) (v4 : Int) (h : Hp)   {P : (Int × Hp) → Prop} (hh : OK (X11_tableProduct v1 v3 v4 h) P) : CT G yX11_tableProduct M_X11_tableProduct 5 0 0 FN h [aR 0, aL v1, aI v3, aI v4] (fun r F' h' => F' = FN ∧ ∃ z, r = some (aL z.1) ∧ h' = z.2 ∧ P z) :=
  CT.of (by decide +kernel) rfl (Nat.le_of_ble_eq_true rfl) k_X11_tableProduct fun k0 _ _ hM => c_X11_tableProduct hM v1 v3 v4 h (fun z hz => ⟨rfl, z, rfl, rfl, hz⟩) hh

