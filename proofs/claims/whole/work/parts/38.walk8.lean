theorem mi_X5_search : MIv yX5_search M_X5_search 0 := ⟨⟨(mem_GW 1315 (by decide +kernel) rfl), (mem_GW 132 (by decide +kernel) rfl), by decide +kernel, by decide +kernel, by decide +kernel, by decide⟩, (mem_GW 1314 (by decide +kernel) rfl), (mem_GW 39 (by decide +kernel) rfl)⟩
set_option maxRecDepth 20000 in
set_option maxHeartbeats 4000000 in
theorem c_X5_search_j43 {k0 : K0} {G : Gx} {Qp : Option AV → Fx → Hp → Prop} (hM : MB (KM k0 0 0 Qp) G M_X5_search 6) (v1 : Int) (v2 : Int) (h : Hp)   {P : ((Int × Hp) ⊕ (Hp)) → Prop} (hin : ∀ y : Int × Hp, P (.inl y) → ATk (KM k0 0 0 Qp) FN 0 0 M_X5_search 28 [some (aR 66), some (aI v1), some (aI y.1)] [] y.2) (hout0 : ∀ y : Hp, P (.inr y) → ATk (KM k0 0 0 Qp) FN 0 0 M_X5_search 45 [some (aR 66), some (aI v1), none] [] y) (hh : OK (X5_search_j43 v1 v2 h) P) : ATk (KM k0 0 0 Qp) FN 0 0 M_X5_search 43 [some (aR 66), some (aI v1), some (aI v2)] [] h := by
  unfold X5_search_j43 at hh
  refine A_blk hM.1 1 (lv1 := [some (aR 66), some (aI v1), some (aI (v2 + 1))]) (s1 := []) (h1 := h) rfl ?_
  refine A_go hM.1 rfl rfl ?_
  exact hin (v2 + 1, h) hh

set_option maxRecDepth 20000 in
set_option maxHeartbeats 4000000 in
theorem c_X5_search_l28 {k0 : K0} {G : Gx} {Qp : Option AV → Fx → Hp → Prop} (hM : MB (KM k0 0 0 Qp) G M_X5_search 6) (v1 : Int) (x : Int × Hp)   {P : ((Int × Hp) ⊕ (Hp)) → Prop} (hin : ∀ y : Int × Hp, P (.inl y) → ATk (KM k0 0 0 Qp) FN 0 0 M_X5_search 28 [some (aR 66), some (aI v1), some (aI y.1)] [] y.2) (hout0 : ∀ y : Hp, P (.inr y) → ATk (KM k0 0 0 Qp) FN 0 0 M_X5_search 45 [some (aR 66), some (aI v1), none] [] y) (hh : OK (X5_search_l28 v1 x) P) : ATk (KM k0 0 0 Qp) FN 0 0 M_X5_search 28 [some (aR 66), some (aI v1), some (aI x.1)] [] x.2 := by
  unfold X5_search_l28 at hh
  refine A_blk hM.1 3 (lv1 := [some (aR 66), some (aI v1), some (aI x.1)]) (s1 := [aI (x.2 66 5), aI x.1]) (h1 := x.2) rfl ?_
  refine A_icmp hM.1 rfl rfl (fun hc => ?_) (fun hc => ?_)
  · replace hh := OK_t hh hc
    refine A_mask [true, true, false] (lv1 := [some (aR 66), some (aI v1), none]) rfl ?_
    exact hout0 x.2 hh
  · replace hh := OK_f hh hc
    refine A_blk hM.1 6 (lv1 := [some (aR 66), some (aI v1), some (aI x.1)]) (s1 := [aI 1, aI (and32 (ushr32 v1 x.1) 1)]) (h1 := x.2) rfl ?_
    refine A_icmp hM.1 rfl rfl (fun hc => ?_) (fun hc => ?_)
    · replace hh := OK_t hh hc
      exact c_X5_search_j43 hM v1 x.1 x.2 hin hout0 hh
    · replace hh := OK_f hh hc
      refine A_blk hM.1 3 (lv1 := [some (aR 66), some (aI v1), some (aI x.1)]) (s1 := [aI x.1, aI v1, aR 66]) (h1 := x.2) rfl ?_
      refine A_callV hM rfl rfl (mem_GW 1328 (by decide +kernel) rfl) mi_X5_complete (As := [aI v1, aI x.1]) (rest := []) (ct_X5_complete v1 x.1 x.2 (OK_bind hh)) (by decide) ⟨Nat.zero_le _, Nat.zero_le _⟩ rfl rfl (Nat.le_of_ble_eq_true rfl) (by decide) rfl (by decide) rfl (fun r F' h' hq1 => ?_)
      obtain ⟨rfl, rfl, hh⟩ := hq1
      obtain ⟨r2, rfl⟩ : ∃ z, z = h' := ⟨_, rfl⟩
      exact c_X5_search_j43 hM v1 x.1 r2 hin hout0 hh

set_option maxRecDepth 20000 in
set_option maxHeartbeats 4000000 in
theorem c_X5_search_l24 {k0 : K0} {G : Gx} {Qp : Option AV → Fx → Hp → Prop} (hM : MB (KM k0 0 0 Qp) G M_X5_search 6) (x : Int × Hp)   {P : ((Int × Hp) ⊕ (Hp)) → Prop} (hin : ∀ y : Int × Hp, P (.inl y) → ATk (KM k0 0 0 Qp) FN 0 0 M_X5_search 24 [some (aR 66), some (aI y.1), none] [] y.2) (hout0 : ∀ y : Hp, P (.inr y) → ATk (KM k0 0 0 Qp) FN 0 0 M_X5_search 47 [some (aR 66), none, none] [] y) (hh : OK (X5_search_l24 x) P) : ATk (KM k0 0 0 Qp) FN 0 0 M_X5_search 24 [some (aR 66), some (aI x.1), none] [] x.2 := by
  unfold X5_search_l24 at hh
  refine A_blk hM.1 1 (lv1 := [some (aR 66), some (aI x.1), none]) (s1 := [aI x.1]) (h1 := x.2) rfl ?_
  refine A_ifc hM.1 rfl rfl (fun hc => ?_) (fun hc => ?_)
  · replace hh := OK_t hh hc
    refine A_mask [true, false, true] (lv1 := [some (aR 66), none, none]) rfl ?_
    exact hout0 x.2 hh
  · replace hh := OK_f hh hc
    refine A_blk hM.1 2 (lv1 := [some (aR 66), some (aI x.1), some (aI 0)]) (s1 := []) (h1 := x.2) rfl ?_
    refine iter_ok (s := (0, x.2)) (Gp := fun z => ATk (KM k0 0 0 Qp) FN 0 0 M_X5_search 28 [some (aR 66), some (aI x.1), some (aI z.1)] [] z.2) (E := fun z => ATk (KM k0 0 0 Qp) FN 0 0 M_X5_search 45 [some (aR 66), some (aI x.1), none] [] z) (fun z P1 g1 g2 g3 => c_X5_search_l28 hM x.1 z g2 g3 g1) (OK_bind hh) (fun x3 hh => ?_)
    refine A_blk hM.1 1 (lv1 := [some (aR 66), some (aI (x.1 + (-1))), none]) (s1 := []) (h1 := x3) rfl ?_
    refine A_go hM.1 rfl rfl ?_
    exact hin (x.1 + (-1), x3) hh

set_option maxRecDepth 20000 in
set_option maxHeartbeats 4000000 in
theorem c_X5_search {k0 : K0} {G : Gx} {Qp : Option AV → Fx → Hp → Prop} (hM : MB (KM k0 0 0 Qp) G M_X5_search 6) (h : Hp)   {P : Hp → Prop} (hq : ∀ z : Hp, P z → Qp none FN z) (hh : OK (X5_search h) P) : ATk (KM k0 0 0 Qp) FN 0 0 M_X5_search 0 [some (aR 66), none, none] [] h := by
  unfold X5_search at hh
  refine A_blk hM.1 9 (lv1 := [some (aR 66), none, none]) (s1 := [aI 1, aI (h 66 5)]) (h1 := setH (setH h 66 14 (-1000000)) 66 15 0) rfl ?_
  refine A_icmp hM.1 rfl rfl (fun hc => ?_) (fun hc => ?_)
  · replace hh := OK_t hh hc
    exact A_retv hM.1 rfl rfl rfl (hq (setH (setH h 66 14 (-1000000)) 66 15 0) hh)
  · replace hh := OK_f hh hc
    refine A_blk hM.1 3 (lv1 := [some (aR 66), none, none]) (s1 := [aI 10, aI (h 66 5)]) (h1 := setH (setH h 66 14 (-1000000)) 66 15 0) rfl ?_
    refine A_icmp hM.1 rfl rfl (fun hc => ?_) (fun hc => ?_)
    · replace hh := OK_t hh hc
      refine A_blk hM.1 1 (lv1 := [some (aR 66), none, none]) (s1 := [aR 66]) (h1 := setH (setH h 66 14 (-1000000)) 66 15 0) rfl ?_
      refine A_callV hM rfl rfl (mem_GW 1317 (by decide +kernel) rfl) mi_X5_fillGains (As := []) (rest := []) (ct_X5_fillGains (setH (setH h 66 14 (-1000000)) 66 15 0) (OK_bind hh)) (by decide) ⟨Nat.zero_le _, Nat.zero_le _⟩ rfl rfl (Nat.le_of_ble_eq_true rfl) (by decide) rfl (by decide) rfl (fun r F' h' hq1 => ?_)
      obtain ⟨rfl, rfl, hh⟩ := hq1
      obtain ⟨r1, rfl⟩ : ∃ z, z = h' := ⟨_, rfl⟩
      refine A_blk hM.1 7 (lv1 := [some (aR 66), some (aI ((shl32 1 (r1 66 5)) - 1)), none]) (s1 := []) (h1 := r1) rfl ?_
      refine iter_ok (s := ((shl32 1 (r1 66 5)) - 1, r1)) (Gp := fun z => ATk (KM k0 0 0 Qp) FN 0 0 M_X5_search 24 [some (aR 66), some (aI z.1), none] [] z.2) (E := fun z => ATk (KM k0 0 0 Qp) FN 0 0 M_X5_search 47 [some (aR 66), none, none] [] z) (fun z P1 g1 g2 g3 => c_X5_search_l24 hM  z g2 g3 g1) (OK_bind hh) (fun x4 hh => ?_)
      refine A_blk hM.1 3 (lv1 := [some (aR 66), none, none]) (s1 := [aI (-1), aI 0, aR 66]) (h1 := x4) rfl ?_
      refine A_callV hM rfl rfl (mem_GW 1328 (by decide +kernel) rfl) mi_X5_complete (As := [aI 0, aI (-1)]) (rest := []) (ct_X5_complete 0 (-1) x4 (OK_bind hh)) (by decide) ⟨Nat.zero_le _, Nat.zero_le _⟩ rfl rfl (Nat.le_of_ble_eq_true rfl) (by decide) rfl (by decide) rfl (fun r F' h' hq1 => ?_)
      obtain ⟨rfl, rfl, hh⟩ := hq1
      obtain ⟨r5, rfl⟩ : ∃ z, z = h' := ⟨_, rfl⟩
      refine A_blk hM.1 2 (lv1 := [some (aR 66), none, none]) (s1 := [aI (r5 66 15)]) (h1 := r5) rfl ?_
      refine A_ifc hM.1 rfl rfl (fun hc => ?_) (fun hc => ?_)
      · replace hh := OK_t hh hc
        exact A_retv hM.1 rfl rfl rfl (hq r5 hh)
      · replace hh := OK_f hh hc
        refine A_blk hM.1 1 (lv1 := [some (aR 66), none, none]) (s1 := [aR 66]) (h1 := r5) rfl ?_
        refine A_callV hM rfl rfl (mem_GW 1336 (by decide +kernel) rfl) mi_X5_layLeast (As := []) (rest := []) (ct_X5_layLeast r5 (OK_bind hh)) (by decide) ⟨Nat.zero_le _, Nat.zero_le _⟩ rfl rfl (Nat.le_of_ble_eq_true rfl) (by decide) rfl (by decide) rfl (fun r F' h' hq1 => ?_)
        obtain ⟨rfl, rfl, hh⟩ := hq1
        obtain ⟨r6, rfl⟩ : ∃ z, z = h' := ⟨_, rfl⟩
        exact A_retv hM.1 rfl rfl rfl (hq r6 hh)
    · replace hh := OK_f hh hc
      exact A_retv hM.1 rfl rfl rfl (hq (setH (setH h 66 14 (-1000000)) 66 15 0) hh)

set_option maxRecDepth 20000 in
set_option maxHeartbeats 4000000 in
theorem ct_X5_search {G : Gx} (h : Hp)   {P : Hp → Prop} (hh : OK (X5_search h) P) : CT G yX5_search M_X5_search 6 0 0 FN h [aR 66] (fun r F' h' => F' = FN ∧ r = none ∧ P h') :=
  CT.of (by decide +kernel) rfl (Nat.le_of_ble_eq_true rfl) k_X5_search fun k0 _ _ hM => c_X5_search hM h (fun z hz => ⟨rfl, rfl, hz⟩) hh

theorem mi_X5_solve : MIv yX5_solve M_X5_solve 1 := ⟨⟨(mem_GW 1301 (by decide +kernel) rfl), (mem_GW 132 (by decide +kernel) rfl), by decide +kernel, by decide +kernel, by decide +kernel, by decide⟩, (mem_GW 1299 (by decide +kernel) rfl), (mem_GW 1300 (by decide +kernel) rfl)⟩
set_option maxRecDepth 20000 in
set_option maxHeartbeats 4000000 in
theorem c_X5_solve_j15 {k0 : K0} {G : Gx} {Qp : Option AV → Fx → Hp → Prop} (hM : MB (KM k0 0 0 Qp) G M_X5_solve 7) (h : Hp)   {P : (Int × Hp) → Prop} (hq : ∀ z : Int × Hp, P z → Qp (some (aI z.1)) FN z.2) (hh : OK (X5_solve_j15 h) P) : ATk (KM k0 0 0 Qp) FN 0 0 M_X5_solve 15 [some (aR 66), none] [] h := by
  unfold X5_solve_j15 at hh
  refine A_blk hM.1 2 (lv1 := [some (aR 66), none]) (s1 := [aI (h 66 15)]) (h1 := h) rfl ?_
  refine A_ifc hM.1 rfl rfl (fun hc => ?_) (fun hc => ?_)
  · replace hh := OK_t hh hc
    refine A_blk hM.1 1 (lv1 := [some (aR 66), none]) (s1 := [aI 0]) (h1 := h) rfl ?_
    exact A_retz hM.1 rfl rfl rfl (by decide) (hq (0, h) hh)
  · replace hh := OK_f hh hc
    refine A_blk hM.1 1 (lv1 := [some (aR 66), none]) (s1 := [aI 1]) (h1 := h) rfl ?_
    refine A_go hM.1 rfl rfl ?_
    exact A_retz hM.1 rfl rfl rfl (by decide) (hq (1, h) hh)

set_option maxRecDepth 20000 in
set_option maxHeartbeats 4000000 in
theorem c_X5_solve {k0 : K0} {G : Gx} {Qp : Option AV → Fx → Hp → Prop} (hM : MB (KM k0 0 0 Qp) G M_X5_solve 7) (v1 : Int) (h : Hp)   {P : (Int × Hp) → Prop} (hq : ∀ z : Int × Hp, P z → Qp (some (aI z.1)) FN z.2) (hh : OK (X5_solve v1 h) P) : ATk (KM k0 0 0 Qp) FN 0 0 M_X5_solve 0 [some (aR 66), some (aI v1)] [] h := by
  unfold X5_solve at hh
  refine A_blk hM.1 3 (lv1 := [some (aR 66), some (aI v1)]) (s1 := [aI v1, aI (h 66 16)]) (h1 := h) rfl ?_
  refine A_icmp hM.1 rfl rfl (fun hc => ?_) (fun hc => ?_)
  · replace hh := OK_t hh hc
    refine A_mask [true, false] (lv1 := [some (aR 66), none]) rfl ?_
    exact c_X5_solve_j15 hM h hq hh
  · replace hh := OK_f hh hc
    refine A_blk hM.1 5 (lv1 := [some (aR 66), some (aI v1)]) (s1 := [aI 0, aR 66]) (h1 := setH h 66 16 v1) rfl ?_
    refine A_putz hM.1 rfl rfl rfl (by decide) rfl rfl rfl (by decide) ?_
    refine A_blk hM.1 2 (lv1 := [some (aR 66), some (aI v1)]) (s1 := [aI v1, aR 66]) (h1 := setH (setH h 66 16 v1) 66 17 0) rfl ?_
    refine A_callV hM rfl rfl (mem_GW 1302 (by decide +kernel) rfl) mi_X5_gather (As := [aI v1]) (rest := []) (ct_X5_gather v1 (setH (setH h 66 16 v1) 66 17 0) (OK_bind hh)) (by decide) ⟨Nat.zero_le _, Nat.zero_le _⟩ rfl rfl (Nat.le_of_ble_eq_true rfl) (by decide) rfl (by decide) rfl (fun r F' h' hq1 => ?_)
    obtain ⟨rfl, rfl, hh⟩ := hq1
    obtain ⟨r1, rfl⟩ : ∃ z, z = h' := ⟨_, rfl⟩
    refine A_blk hM.1 1 (lv1 := [some (aR 66), some (aI v1)]) (s1 := [aR 66]) (h1 := r1) rfl ?_
    refine A_callV hM rfl rfl (mem_GW 1312 (by decide +kernel) rfl) mi_X5_search (As := []) (rest := []) (ct_X5_search r1 (OK_bind hh)) (by decide) ⟨Nat.zero_le _, Nat.zero_le _⟩ rfl rfl (Nat.le_of_ble_eq_true rfl) (by decide) rfl (by decide) rfl (fun r F' h' hq1 => ?_)
    obtain ⟨rfl, rfl, hh⟩ := hq1
    obtain ⟨r2, rfl⟩ : ∃ z, z = h' := ⟨_, rfl⟩
    refine A_mask [true, false] (lv1 := [some (aR 66), none]) rfl ?_
    exact c_X5_solve_j15 hM r2 hq hh

set_option maxRecDepth 20000 in
set_option maxHeartbeats 4000000 in
theorem ct_X5_solve {G : Gx} (v1 : Int) (h : Hp)   {P : (Int × Hp) → Prop} (hh : OK (X5_solve v1 h) P) : CT G yX5_solve M_X5_solve 7 0 0 FN h [aR 66, aI v1] (fun r F' h' => F' = FN ∧ ∃ z, r = some (aI z.1) ∧ h' = z.2 ∧ P z) :=
  CT.of (by decide +kernel) rfl (Nat.le_of_ble_eq_true rfl) k_X5_solve fun k0 _ _ hM => c_X5_solve hM v1 h (fun z hz => ⟨rfl, z, rfl, rfl, hz⟩) hh

theorem mi_X5_points : MIv yX5_points M_X5_points 0 := ⟨⟨(mem_GW 1344 (by decide +kernel) rfl), (mem_GW 132 (by decide +kernel) rfl), by decide +kernel, by decide +kernel, by decide +kernel, by decide⟩, (mem_GW 1342 (by decide +kernel) rfl), (mem_GW 1343 (by decide +kernel) rfl)⟩
set_option maxRecDepth 20000 in
set_option maxHeartbeats 4000000 in
theorem c_X5_points {k0 : K0} {G : Gx} {Qp : Option AV → Fx → Hp → Prop} (hM : MB (KM k0 0 0 Qp) G M_X5_points 1) (h : Hp)   {P : Int → Prop} (hq : ∀ z : Int, P z → Qp (some (aI z)) FN h) (hh : OK (X5_points h) P) : ATk (KM k0 0 0 Qp) FN 0 0 M_X5_points 0 [some (aR 66)] [] h := by
  unfold X5_points at hh
  refine A_blk hM.1 2 (lv1 := [some (aR 66)]) (s1 := [aI (h 66 14)]) (h1 := h) rfl ?_
  exact A_reti hM.1 rfl rfl rfl (hq (h 66 14) hh)

set_option maxRecDepth 20000 in
set_option maxHeartbeats 4000000 in
theorem ct_X5_points {G : Gx} (h : Hp)   {P : Int → Prop} (hh : OK (X5_points h) P) : CT G yX5_points M_X5_points 1 0 0 FN h [aR 66] (fun r F' h' => F' = FN ∧ ∃ z, r = some (aI z) ∧ h' = h ∧ P z) :=
  CT.of (by decide +kernel) rfl (Nat.le_of_ble_eq_true rfl) k_X5_points fun k0 _ _ hM => c_X5_points hM h (fun z hz => ⟨rfl, z, rfl, rfl, hz⟩) hh

theorem mi_X5_size : MIv yX5_size M_X5_size 0 := ⟨⟨(mem_GW 1348 (by decide +kernel) rfl), (mem_GW 132 (by decide +kernel) rfl), by decide +kernel, by decide +kernel, by decide +kernel, by decide⟩, (mem_GW 1346 (by decide +kernel) rfl), (mem_GW 1347 (by decide +kernel) rfl)⟩
set_option maxRecDepth 20000 in
set_option maxHeartbeats 4000000 in
theorem c_X5_size {k0 : K0} {G : Gx} {Qp : Option AV → Fx → Hp → Prop} (hM : MB (KM k0 0 0 Qp) G M_X5_size 1) (h : Hp)   {P : Int → Prop} (hq : ∀ z : Int, P z → Qp (some (aI z)) FN h) (hh : OK (X5_size h) P) : ATk (KM k0 0 0 Qp) FN 0 0 M_X5_size 0 [some (aR 66)] [] h := by
  unfold X5_size at hh
  refine A_blk hM.1 2 (lv1 := [some (aR 66)]) (s1 := [aI (h 66 5)]) (h1 := h) rfl ?_
  exact A_reti hM.1 rfl rfl rfl (hq (h 66 5) hh)

set_option maxRecDepth 20000 in
set_option maxHeartbeats 4000000 in
theorem ct_X5_size {G : Gx} (h : Hp)   {P : Int → Prop} (hh : OK (X5_size h) P) : CT G yX5_size M_X5_size 1 0 0 FN h [aR 66] (fun r F' h' => F' = FN ∧ ∃ z, r = some (aI z) ∧ h' = h ∧ P z) :=
  CT.of (by decide +kernel) rfl (Nat.le_of_ble_eq_true rfl) k_X5_size fun k0 _ _ hM => c_X5_size hM h (fun z hz => ⟨rfl, z, rfl, rfl, hz⟩) hh

theorem mi_X5_bitAt : MIv yX5_bitAt M_X5_bitAt 1 := ⟨⟨(mem_GW 1352 (by decide +kernel) rfl), (mem_GW 132 (by decide +kernel) rfl), by decide +kernel, by decide +kernel, by decide +kernel, by decide⟩, (mem_GW 1350 (by decide +kernel) rfl), (mem_GW 1351 (by decide +kernel) rfl)⟩
set_option maxRecDepth 20000 in
set_option maxHeartbeats 4000000 in
theorem c_X5_bitAt {k0 : K0} {G : Gx} {Qp : Option AV → Fx → Hp → Prop} (hM : MB (KM k0 0 0 Qp) G M_X5_bitAt 2) (v1 : Int) (h : Hp)   {P : Int → Prop} (hq : ∀ z : Int, P z → Qp (some (aI z)) FN h) (hh : OK (X5_bitAt v1 h) P) : ATk (KM k0 0 0 Qp) FN 0 0 M_X5_bitAt 0 [some (aR 66), some (aI v1)] [] h := by
  unfold X5_bitAt at hh
  refine A_blk hM.1 5 (lv1 := [some (aR 66), some (aI v1)]) (s1 := [aI v1, aR 74, aR 69]) (h1 := h) rfl ?_
  refine A_callSN (host := "QuotedBooks") hM rfl rfl (mem_NW 1291 (by decide +kernel) rfl) mi_X11_at ms_X11_at (As := [aR 74, aI v1]) (rest := [aR 69]) (ct_X11_at 74 10 v1 h rfl rfl (OK_bind hh)) (by decide) ⟨Nat.zero_le _, Nat.zero_le _⟩ rfl rfl (Nat.le_of_ble_eq_true rfl) (fun r F' h' hq1 => ?_)
  obtain ⟨rfl, r1, rfl, e9, hh⟩ := hq1
  subst h'
  refine A_callSN (host := "QuotedBooks") hM rfl rfl (mem_NW 1291 (by decide +kernel) rfl) mi_X11_at ms_X11_at (As := [aR 69, aI r1]) (rest := []) (ct_X11_at 69 10 r1 h rfl rfl (OK_bind hh)) (by decide) ⟨Nat.zero_le _, Nat.zero_le _⟩ rfl rfl (Nat.le_of_ble_eq_true rfl) (fun r F' h' hq1 => ?_)
  obtain ⟨rfl, r2, rfl, e9, hh⟩ := hq1
  subst h'
  exact A_reti hM.1 rfl rfl rfl (hq r2 hh)

set_option maxRecDepth 20000 in
set_option maxHeartbeats 4000000 in
theorem ct_X5_bitAt {G : Gx} (v1 : Int) (h : Hp)   {P : Int → Prop} (hh : OK (X5_bitAt v1 h) P) : CT G yX5_bitAt M_X5_bitAt 2 0 0 FN h [aR 66, aI v1] (fun r F' h' => F' = FN ∧ ∃ z, r = some (aI z) ∧ h' = h ∧ P z) :=
  CT.of (by decide +kernel) rfl (Nat.le_of_ble_eq_true rfl) k_X5_bitAt fun k0 _ _ hM => c_X5_bitAt hM v1 h (fun z hz => ⟨rfl, z, rfl, rfl, hz⟩) hh

