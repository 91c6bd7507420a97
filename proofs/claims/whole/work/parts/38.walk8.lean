set_option linter.all false
theorem mi_X5_search : MIv yX5_search M_X5_search 0 := ⟨⟨(mem_GW 1315 (by decide +kernel) rfl), (mem_GW 132 (by decide +kernel) rfl), by decide +kernel, by decide +kernel, by decide +kernel, by decide⟩, (mem_GW 1314 (by decide +kernel) rfl), (mem_GW 39 (by decide +kernel) rfl)⟩
set_option maxRecDepth 20000 in
set_option maxHeartbeats 4000000 in
theorem c_X5_search_j43 {k0 : K0} {G : Gx} {Qp : Option AV → Fx → Hp → Prop} (hM : MB (KM k0 0 0 Qp) G M_X5_search 6) (v1 : Int) (v2 : Int) (h : Hp)   {P : ((Int × Hp) ⊕ (Hp)) → Prop} (hin : ∀ y : Int × Hp, P (.inl y) → ATk (KM k0 0 0 Qp) FN 0 0 M_X5_search 28 [some (aR 66), some (aI v1), some (aI y.1)] [] y.2) (hout0 : ∀ y : Hp, P (.inr y) → ATk (KM k0 0 0 Qp) FN 0 0 M_X5_search 45 [some (aR 66), some (aI v1), none] [] y) (hh : OK (X5_search_j43 v1 v2 h) P) : ATk (KM k0 0 0 Qp) FN 0 0 M_X5_search 43 [some (aR 66), some (aI v1), some (aI v2)] [] h := by
  unfold X5_search_j43 at hh
  refine A_blk hM.1 1 (lv1 := [some (aR 66), some (aI v1), some (aI (v2 + 1))]) (s1 := []) (h1 := h) rfl ?_
  refine A_go hM.1 rfl rfl ?_
  exact hin (v2 + 1, h) hh

set_option maxRecDepth 20000 in
set_option maxHeartbeats 4000000 in
theorem c_X5_search_l28 {k0 : K0} {G : Gx} {Qp : Option AV → Fx → Hp → Prop} (hM : MB (KM k0 0 0 Qp) G M_X5_search 6) (v1 : Int) (x : Int × Hp)   {P : ((Int × Hp) ⊕ (Hp)) → Prop} (hin : ∀ y : Int × Hp, P (.inl y) → ATk (KM k0 0 0 Qp) FN 0 0 M_X5_search 28 [some (aR 66), some (aI v1), some (aI y.1)] [] y.2) (hout0 : ∀ y : Hp, P (.inr y) → ATk (KM k0 0 0 Qp) FN 0 0 M_X5_search 45 [some (aR 66), some (aI v1), none] [] y) (hh : OK (X5_search_l28 v1 x) P) : ATk (KM k0 0 0 Qp) FN 0 0 M_X5_search 28 [some (aR 66), some (aI v1), some (aI x.1)] [] x.2 := by
  unfold X5_search_l28 at hh
  refine A_blk hM.1 3 (lv1 := [some (aR 66), some (aI v1), some (aI x.1)]) (s1 := [aI (x.2 66 5), aI x.1]) (h1 := x.2) rfl ?_
  refine A_icmp hM.1 rfl rfl (fun hc => ?_) (fun hc => ?_)
  · replace hh := OK_t hh hc
    refine A_mask [true, true, false] (lv1 := [some (aR 66), some (aI v1), none]) rfl ?_
    exact hout0 x.2 hh
  · replace hh := OK_f hh hc
    refine A_blk hM.1 6 (lv1 := [some (aR 66), some (aI v1), some (aI x.1)]) (s1 := [aI 1, aI (and32 (ushr32 v1 x.1) 1)]) (h1 := x.2) rfl ?_
    refine A_icmp hM.1 rfl rfl (fun hc => ?_) (fun hc => ?_)
    · replace hh := OK_t hh hc
      exact c_X5_search_j43 hM v1 x.1 x.2 hin hout0 hh
    · replace hh := OK_f hh hc
      refine A_blk hM.1 3 (lv1 := [some (aR 66), some (aI v1), some (aI x.1)]) (s1 := [aI x.1, aI v1, aR 66]) (h1 := x.2) rfl ?_
      refine A_callV hM rfl rfl (mem_GW 1328 (by decide +kernel) rfl) mi_X5_complete (As := [aI v1, aI x.1]) (rest := []) (ct_X5_complete v1 x.1 x.2 (OK_bind hh)) (by decide) ⟨Nat.zero_le _, Nat.zero_le _⟩ rfl rfl (Nat.le_of_ble_eq_true rfl) (by decide) rfl (by decide) rfl (fun r F' h' hq1 => ?_)
      obtain ⟨rfl, rfl, hh⟩ := hq1
      obtain ⟨r2, rfl⟩ : ∃ z, z = h' := ⟨_, rfl⟩
      exact c_X5_search_j43 hM v1 x.1 r2 hin hout0 hh

set_option maxRecDepth 20000 in
set_option maxHeartbeats 4000000 in
theorem c_X5_search_l24 {k0 : K0} {G : Gx} {Qp : Option AV → Fx → Hp → Prop} (hM : MB (KM k0 0 0 Qp) G M_X5_search 6) (x : Int × Hp)   {P : ((Int × Hp) ⊕ (Hp)) → Prop} (hin : ∀ y : Int × Hp, P (.inl y) → ATk (KM k0 0 0 Qp) FN 0 0 M_X5_search 24 [some (aR 66), some (aI y.1), none] [] y.2) (hout0 : ∀ y : Hp, P (.inr y) → ATk (KM k0 0 0 Qp) FN 0 0 M_X5_search 47 [some (aR 66), none, none] [] y) (hh : OK (X5_search_l24 x) P) : ATk (KM k0 0 0 Qp) FN 0 0 M_X5_search 24 [some (aR 66), some (aI x.1), none] [] x.2 := by
  unfold X5_search_l24 at hh
  refine A_blk hM.1 1 (lv1 := [some (aR 66), some (aI x.1), none]) (s1 := [aI x.1]) (h1 := x.2) rfl ?_
  refine A_ifc hM.1 rfl rfl (fun hc => ?_) (fun hc => ?_)
  · replace hh := OK_t hh hc
    refine A_mask [true, false, true] (lv1 := [some (aR 66), none, none]) rfl ?_
    exact hout0 x.2 hh
  · replace hh := OK_f hh hc
    refine A_blk hM.1 2 (lv1 := [some (aR 66), some (aI x.1), some (aI 0)]) (s1 := []) (h1 := x.2) rfl ?_
    refine iter_ok (s := (0, x.2)) (Gp := fun z => ATk (KM k0 0 0 Qp) FN 0 0 M_X5_search 28 [some (aR 66), some (aI x.1), some (aI z.1)] [] z.2) (E := fun z => ATk (KM k0 0 0 Qp) FN 0 0 M_X5_search 45 [some (aR 66), some (aI x.1), none] [] z) (fun z P1 g1 g2 g3 => c_X5_search_l28 hM x.1 z g2 g3 g1) (OK_bind hh) (fun x3 hh => ?_)
    refine A_blk hM.1 1 (lv1 := [some (aR 66), some (aI (x.1 + (-1))), none]) (s1 := []) (h1 := x3) rfl ?_
    refine A_go hM.1 rfl rfl ?_
    exact hin (x.1 + (-1), x3) hh

set_option maxRecDepth 20000 in
set_option maxHeartbeats 4000000 in
theorem c_X5_search {k0 : K0} {G : Gx} {Qp : Option AV → Fx → Hp → Prop} (hM : MB (KM k0 0 0 Qp) G M_X5_search 6) (h : Hp)   {P : Hp → Prop} (hq : ∀ z : Hp, P z → Qp none FN z) (hh : OK (X5_search h) P) : ATk (KM k0 0 0 Qp) FN 0 0 M_X5_search 0 [some (aR 66), none, none] [] h := by
  unfold X5_search at hh
  refine A_blk hM.1 9 (lv1 := [some (aR 66), none, none]) (s1 := [aI 1, aI (h 66 5)]) (h1 := setH (setH h 66 14 (-1000000)) 66 15 0) rfl ?_
  refine A_icmp hM.1 rfl rfl (fun hc => ?_) (fun hc => ?_)
  · replace hh := OK_t hh hc
    exact A_retv hM.1 rfl rfl rfl (hq (setH (setH h 66 14 (-1000000)) 66 15 0) hh)
  · replace hh := OK_f hh hc
    refine A_blk hM.1 3 (lv1 := [some (aR 66), none, none]) (s1 := [aI 10, aI (h 66 5)]) (h1 := setH (setH h 66 14 (-1000000)) 66 15 0) rfl ?_
    refine A_icmp hM.1 rfl rfl (fun hc => ?_) (fun hc => ?_)
    · replace hh := OK_t hh hc
      refine A_blk hM.1 1 (lv1 := [some (aR 66), none, none]) (s1 := [aR 66]) (h1 := setH (setH h 66 14 (-1000000)) 66 15 0) rfl ?_
      refine A_callV hM rfl rfl (mem_GW 1317 (by decide +kernel) rfl) mi_X5_fillGains (As := []) (rest := []) (ct_X5_fillGains (setH (setH h 66 14 (-1000000)) 66 15 0) (OK_bind hh)) (by decide) ⟨Nat.zero_le _, Nat.zero_le _⟩ rfl rfl (Nat.le_of_ble_eq_true rfl) (by decide) rfl (by decide) rfl (fun r F' h' hq1 => ?_)
      obtain ⟨rfl, rfl, hh⟩ := hq1
      obtain ⟨r1, rfl⟩ : ∃ z, z = h' := ⟨_, rfl⟩
      refine A_blk hM.1 7 (lv1 := [some (aR 66), some (aI ((shl32 1 (r1 66 5)) - 1)), none]) (s1 := []) (h1 := r1) rfl ?_
      refine iter_ok (s := ((shl32 1 (r1 66 5)) - 1, r1)) (Gp := fun z => ATk (KM k0 0 0 Qp) FN 0 0 M_X5_search 24 [some (aR 66), some (aI z.1), none] [] z.2) (E := fun z => ATk (KM k0 0 0 Qp) FN 0 0 M_X5_search 47 [some (aR 66), none, none] [] z) (fun z P1 g1 g2 g3 => c_X5_search_l24 hM  z g2 g3 g1) (OK_bind hh) (fun x4 hh => ?_)
      refine A_blk hM.1 3 (lv1 := [some (aR 66), none, none]) (s1 := [aI (-1), aI 0, aR 66]) (h1 := x4) rfl ?_
      refine A_callV hM rfl rfl (mem_GW 1328 (by decide +kernel) rfl) mi_X5_complete (As := [aI 0, aI (-1)]) (rest := []) (ct_X5_complete 0 (-1) x4 (OK_bind hh)) (by decide) ⟨Nat.zero_le _, Nat.zero_le _⟩ rfl rfl (Nat.le_of_ble_eq_true rfl) (by decide) rfl (by decide) rfl (fun r F' h' hq1 => ?_)
      obtain ⟨rfl, rfl, hh⟩ := hq1
      obtain ⟨r5, rfl⟩ : ∃ z, z = h' := ⟨_, rfl⟩
      refine A_blk hM.1 2 (lv1 := [some (aR 66), none, none]) (s1 := [aI (r5 66 15)]) (h1 := r5) rfl ?_
      refine A_ifc hM.1 rfl rfl (fun hc => ?_) (fun hc => ?_)
      · replace hh := OK_t hh hc
        exact A_retv hM.1 rfl rfl rfl (hq r5 hh)
      · replace hh := OK_f hh hc
        refine A_blk hM.1 1 (lv1 := [some (aR 66), none, none]) (s1 := [aR 66]) (h1 := r5) rfl ?_
        refine A_callV hM rfl rfl (mem_GW 1336 (by decide +kernel) rfl) mi_X5_layLeast (As := []) (rest := []) (ct_X5_layLeast r5 (OK_bind hh)) (by decide) ⟨Nat.zero_le _, Nat.zero_le _⟩ rfl rfl (Nat.le_of_ble_eq_true rfl) (by decide) rfl (by decide) rfl (fun r F' h' hq1 => ?_)
        obtain ⟨rfl, rfl, hh⟩ := hq1
        obtain ⟨r6, rfl⟩ : ∃ z, z = h' := ⟨_, rfl⟩
        exact A_retv hM.1 rfl rfl rfl (hq r6 hh)
    · replace hh := OK_f hh hc
      exact A_retv hM.1 rfl rfl rfl (hq (setH (setH h 66 14 (-1000000)) 66 15 0) hh)

set_option maxRecDepth 20000 in
set_option maxHeartbeats 4000000 in
theorem ct_X5_search {G : Gx} (h : Hp)   {P : Hp → Prop} (hh : OK (X5_search h) P) : CT G yX5_search M_X5_search 6 0 0 FN h [aR 66] (fun r F' h' => F' = FN ∧ r = none ∧ P h') :=
  CT.of (by decide +kernel) rfl (Nat.le_of_ble_eq_true rfl) k_X5_search fun k0 _ _ hM => c_X5_search hM h (fun z hz => ⟨rfl, rfl, hz⟩) hh

theorem mi_X5_solve : MIv yX5_solve M_X5_solve 1 := ⟨⟨(mem_GW 1301 (by decide +kernel) rfl), (mem_GW 132 (by decide +kernel) rfl), by decide +kernel, by decide +kernel, by decide +kernel, by decide⟩, (mem_GW 1299 (by decide +kernel) rfl), (mem_GW 1300 (by decide +kernel) rfl)⟩
set_option maxRecDepth 20000 in
set_option maxHeartbeats 4000000 in
theorem c_X5_solve_j15 {k0 : K0} {G : Gx} {Qp : Option AV → Fx → Hp → Prop} (hM : MB (KM k0 0 0 Qp) G M_X5_solve 7) (h : Hp)   {P : (Int × Hp) → Prop} (hq : ∀ z : Int × Hp, P z → Qp (some (aI z.1)) FN z.2) (hh : OK (X5_solve_j15 h) P) : ATk (KM k0 0 0 Qp) FN 0 0 M_X5_solve 15 [some (aR 66), none] [] h := by
  unfold X5_solve_j15 at hh
  refine A_blk hM.1 2 (lv1 := [some (aR 66), none]) (s1 := [aI (h 66 15)]) (h1 := h) rfl ?_
  refine A_ifc hM.1 rfl rfl (fun hc => ?_) (fun hc => ?_)
  · replace hh := OK_t hh hc
    refine A_blk hM.1 1 (lv1 := [some (aR 66), none]) (s1 := [aI 0]) (h1 := h) rfl ?_
    exact A_retz hM.1 rfl rfl rfl (by decide) (hq (0, h) hh)
  · replace hh := OK_f hh hc
    refine A_blk hM.1 1 (lv1 := [some (aR 66), none]) (s1 := [aI 1]) (h1 := h) rfl ?_
    refine A_go hM.1 rfl rfl ?_
    exact A_retz hM.1 rfl rfl rfl (by decide) (hq (1, h) hh)

set_option maxRecDepth 20000 in
set_option maxHeartbeats 4000000 in
theorem c_X5_solve {k0 : K0} {G : Gx} {Qp : Option AV → Fx → Hp → Prop} (hM : MB (KM k0 0 0 Qp) G M_X5_solve 7) (v1 : Int) (h : Hp)   {P : (Int × Hp) → Prop} (hq : ∀ z : Int × Hp, P z → Qp (some (aI z.1)) FN z.2) (hh : OK (X5_solve v1 h) P) : ATk (KM k0 0 0 Qp) FN 0 0 M_X5_solve 0 [some (aR 66), some (aI v1)] [] h := by
  unfold X5_solve at hh
  refine A_blk hM.1 3 (lv1 := [some (aR 66), some (aI v1)]) (s1 := [aI v1, aI (h 66 16)]) (h1 := h) rfl ?_
  refine A_icmp hM.1 rfl rfl (fun hc => ?_) (fun hc => ?_)
  · replace hh := OK_t hh hc
    refine A_mask [true, false] (lv1 := [some (aR 66), none]) rfl ?_
    exact c_X5_solve_j15 hM h hq hh
  · replace hh := OK_f hh hc
    refine A_blk hM.1 5 (lv1 := [some (aR 66), some (aI v1)]) (s1 := [aI 0, aR 66]) (h1 := setH h 66 16 v1) rfl ?_
    refine A_putz hM.1 rfl rfl rfl (by decide) rfl rfl rfl (by decide) ?_
    refine A_blk hM.1 2 (lv1 := [some (aR 66), some (aI v1)]) (s1 := [aI v1, aR 66]) (h1 := setH (setH h 66 16 v1) 66 17 0) rfl ?_
    refine A_callV hM rfl rfl (mem_GW 1302 (by decide +kernel) rfl) mi_X5_gather (As := [aI v1]) (rest := []) (ct_X5_gather v1 (setH (setH h 66 16 v1) 66 17 0) (OK_bind hh)) (by decide) ⟨Nat.zero_le _, Nat.zero_le _⟩ rfl rfl (Nat.le_of_ble_eq_true rfl) (by decide) rfl (by decide) rfl (fun r F' h' hq1 => ?_)
    obtain ⟨rfl, rfl, hh⟩ := hq1
    obtain ⟨r1, rfl⟩ : ∃ z, z = h' := ⟨_, rfl⟩
    refine A_blk hM.1 1 (lv1 := [some (aR 66), some (aI v1)]) (s1 := [aR 66]) (h1 := r1) rfl ?_
    refine A_callV hM rfl rfl (mem_GW 1312 (by decide +kernel) rfl) mi_X5_search (As := []) (rest := []) (ct_X5_search r1 (OK_bind hh)) (by decide) ⟨Nat.zero_le _, Nat.zero_le _⟩ rfl rfl (Nat.le_of_ble_eq_true rfl) (by decide) rfl (by decide) rfl (fun r F' h' hq1 => ?_)
    obtain ⟨rfl, rfl, hh⟩ := hq1
    obtain ⟨r2, rfl⟩ : ∃ z, z = h' := ⟨_, rfl⟩
    refine A_mask [true, false] (lv1 := [some (aR 66), none]) rfl ?_
    exact c_X5_solve_j15 hM r2 hq hh

set_option maxRecDepth 20000 in
set_option maxHeartbeats 4000000 in
theorem ct_X5_solve {G : Gx} (v1 : Int) (h : Hp)   {P : (Int × Hp) → Prop} (hh : OK (X5_solve v1 h) P) : CT G yX5_solve M_X5_solve 7 0 0 FN h [aR 66, aI v1] (fun r F' h' => F' = FN ∧ ∃ z, r = some (aI z.1) ∧ h' = z.2 ∧ P z) :=
  CT.of (by decide +kernel) rfl (Nat.le_of_ble_eq_true rfl) k_X5_solve fun k0 _ _ hM => c_X5_solve hM v1 h (fun z hz => ⟨rfl, z, rfl, rfl, hz⟩) hh

theorem mi_X5_points : MIv yX5_points M_X5_points 0 := ⟨⟨(mem_GW 1344 (by decide +kernel) rfl), (mem_GW 132 (by decide +kernel) rfl), by decide +kernel, by decide +kernel, by decide +kernel, by decide⟩, (mem_GW 1342 (by decide +kernel) rfl), (mem_GW 1343 (by decide +kernel) rfl)⟩
set_option maxRecDepth 20000 in
set_option maxHeartbeats 4000000 in
theorem c_X5_points {k0 : K0} {G : Gx} {Qp : Option AV → Fx → Hp → Prop} (hM : MB (KM k0 0 0 Qp) G M_X5_points 1) (h : Hp)   {P : Int → Prop} (hq : ∀ z : Int, P z → Qp (some (aI z)) FN h) (hh : OK (X5_points h) P) : ATk (KM k0 0 0 Qp) FN 0 0 M_X5_points 0 [some (aR 66)] [] h := by
  unfold X5_points at hh
  refine A_blk hM.1 2 (lv1 := [some (aR 66)]) (s1 := [aI (h 66 14)]) (h1 := h) rfl ?_
  exact A_reti hM.1 rfl rfl rfl (hq (h 66 14) hh)

set_option maxRecDepth 20000 in
set_option maxHeartbeats 4000000 in
theorem ct_X5_points {G : Gx} (h : Hp)   {P : Int → Prop} (hh : OK (X5_points h) P) : CT G yX5_points M_X5_points 1 0 0 FN h [aR 66] (fun r F' h' => F' = FN ∧ ∃ z, r = some (aI z) ∧ h' = h ∧ P z) :=
  CT.of (by decide +kernel) rfl (Nat.le_of_ble_eq_true rfl) k_X5_points fun k0 _ _ hM => c_X5_points hM h (fun z hz => ⟨rfl, z, rfl, rfl, hz⟩) hh

theorem mi_X5_size : MIv yX5_size M_X5_size 0 := ⟨⟨(mem_GW 1348 (by decide +kernel) rfl), (mem_GW 132 (by decide +kernel) rfl), by decide +kernel, by decide +kernel, by decide +kernel, by decide⟩, (mem_GW 1346 (by decide +kernel) rfl), (mem_GW 1347 (by decide +kernel) rfl)⟩
set_option maxRecDepth 20000 in
set_option maxHeartbeats 4000000 in
theorem c_X5_size {k0 : K0} {G : Gx} {Qp : Option AV → Fx → Hp → Prop} (hM : MB (KM k0 0 0 Qp) G M_X5_size 1) (h : Hp)   {P : Int → Prop} (hq : ∀ z : Int, P z → Qp (some (aI z)) FN h) (hh : OK (X5_size h) P) : ATk (KM k0 0 0 Qp) FN 0 0 M_X5_size 0 [some (aR 66)] [] h := by
  unfold X5_size at hh
  refine A_blk hM.1 2 (lv1 := [some (aR 66)]) (s1 := [aI (h 66 5)]) (h1 := h) rfl ?_
  exact A_reti hM.1 rfl rfl rfl (hq (h 66 5) hh)

set_option maxRecDepth 20000 in
set_option maxHeartbeats 4000000 in
theorem ct_X5_size {G : Gx} (h : Hp)   {P : Int → Prop} (hh : OK (X5_size h) P) : CT G yX5_size M_X5_size 1 0 0 FN h [aR 66] (fun r F' h' => F' = FN ∧ ∃ z, r = some (aI z) ∧ h' = h ∧ P z) :=
  CT.of (by decide +kernel) rfl (Nat.le_of_ble_eq_true rfl) k_X5_size fun k0 _ _ hM => c_X5_size hM h (fun z hz => ⟨rfl, z, rfl, rfl, hz⟩) hh

theorem mi_X5_bitAt : MIv yX5_bitAt M_X5_bitAt 1 := ⟨⟨(mem_GW 1352 (by decide +kernel) rfl), (mem_GW 132 (by decide +kernel) rfl), by decide +kernel, by decide +kernel, by decide +kernel, by decide⟩, (mem_GW 1350 (by decide +kernel) rfl), (mem_GW 1351 (by decide +kernel) rfl)⟩
set_option maxRecDepth 20000 in
set_option maxHeartbeats 4000000 in
theorem c_X5_bitAt {k0 : K0} {G : Gx} {Qp : Option AV → Fx → Hp → Prop} (hM : MB (KM k0 0 0 Qp) G M_X5_bitAt 2) (v1 : Int) (h : Hp)   {P : Int → Prop} (hq : ∀ z : Int, P z → Qp (some (aI z)) FN h) (hh : OK (X5_bitAt v1 h) P) : ATk (KM k0 0 0 Qp) FN 0 0 M_X5_bitAt 0 [some (aR 66), some (aI v1)] [] h := by
  unfold X5_bitAt at hh
  refine A_blk hM.1 5 (lv1 := [some (aR 66), some (aI v1)]) (s1 := [aI v1, aR 74, aR 69]) (h1 := h) rfl ?_
  refine A_callSN (host := "QuotedBooks") hM rfl rfl (mem_NW 1291 (by decide +kernel) rfl) mi_X11_at ms_X11_at (As := [aR 74, aI v1]) (rest := [aR 69]) (ct_X11_at 74 10 v1 h rfl rfl (OK_bind hh)) (by decide) ⟨Nat.zero_le _, Nat.zero_le _⟩ rfl rfl (Nat.le_of_ble_eq_true rfl) (fun r F' h' hq1 => ?_)
  obtain ⟨rfl, r1, rfl, e9, hh⟩ := hq1
  subst h'
  refine A_callSN (host := "QuotedBooks") hM rfl rfl (mem_NW 1291 (by decide +kernel) rfl) mi_X11_at ms_X11_at (As := [aR 69, aI r1]) (rest := []) (ct_X11_at 69 10 r1 h rfl rfl (OK_bind hh)) (by decide) ⟨Nat.zero_le _, Nat.zero_le _⟩ rfl rfl (Nat.le_of_ble_eq_true rfl) (fun r F' h' hq1 => ?_)
  obtain ⟨rfl, r2, rfl, e9, hh⟩ := hq1
  subst h'
  exact A_reti hM.1 rfl rfl rfl (hq r2 hh)

set_option maxRecDepth 20000 in
set_option maxHeartbeats 4000000 in
theorem ct_X5_bitAt {G : Gx} (v1 : Int) (h : Hp)   {P : Int → Prop} (hh : OK (X5_bitAt v1 h) P) : CT G yX5_bitAt M_X5_bitAt 2 0 0 FN h [aR 66, aI v1] (fun r F' h' => F' = FN ∧ ∃ z, r = some (aI z) ∧ h' = h ∧ P z) :=
  CT.of (by decide +kernel) rfl (Nat.le_of_ble_eq_true rfl) k_X5_bitAt fun k0 _ _ hM => c_X5_bitAt hM v1 h (fun z hz => ⟨rfl, z, rfl, rfl, hz⟩) hh

theorem mi_X11_order : MIv yX11_order M_X11_order 2 := ⟨⟨(mem_GW 1297 (by decide +kernel) rfl), (mem_GW 123 (by decide +kernel) rfl), by decide +kernel, by decide +kernel, by decide +kernel, by decide⟩, (mem_GW 1295 (by decide +kernel) rfl), (mem_GW 1296 (by decide +kernel) rfl)⟩
set_option maxRecDepth 20000 in
set_option maxHeartbeats 4000000 in
theorem c_X11_order {k0 : K0} {G : Gx} {Qp : Option AV → Fx → Hp → Prop} (hM : MB (KM k0 0 0 Qp) G M_X11_order 8) (v1 : Int) (v2 : Int) (h : Hp)   {P : (Int × Hp) → Prop} (hq : ∀ z : Int × Hp, P z → Qp (some (aI z.1)) FN z.2) (hh : OK (X11_order v1 v2 h) P) : ATk (KM k0 0 0 Qp) FN 0 0 M_X11_order 0 [some (aR 0), some (aI v1), some (aI v2)] [] h := by
  unfold X11_order at hh
  refine A_blk hM.1 3 (lv1 := [some (aR 0), some (aI v1), some (aI v2)]) (s1 := [aI v1, aR 3]) (h1 := h) rfl ?_
  refine A_callV hM rfl rfl (mem_GW 632 (by decide +kernel) rfl) mi_X7_isWork (As := [aI v1]) (rest := []) (ct_X7_isWork v1 h (OK_bind hh)) (by decide) ⟨Nat.zero_le _, Nat.zero_le _⟩ rfl rfl (Nat.le_of_ble_eq_true rfl) (by decide) rfl (by decide) rfl (fun r F' h' hq1 => ?_)
  obtain ⟨rfl, r1, rfl, e9, hh⟩ := hq1
  subst h'
  refine A_ifc hM.1 rfl rfl (fun hc => ?_) (fun hc => ?_)
  · replace hh := OK_t hh hc
    refine A_blk hM.1 1 (lv1 := [some (aR 0), some (aI v1), some (aI v2)]) (s1 := [aI (-1000000)]) (h1 := h) rfl ?_
    exact A_reti hM.1 rfl rfl rfl (hq ((-1000000), h) hh)
  · replace hh := OK_f hh hc
    refine A_blk hM.1 2 (lv1 := [some (aR 0), some (aI v1), some (aI v2)]) (s1 := [aI (-1), aI v2]) (h1 := h) rfl ?_
    refine A_icmp hM.1 rfl rfl (fun hc => ?_) (fun hc => ?_)
    · replace hh := OK_t hh hc
      refine A_blk hM.1 1 (lv1 := [some (aR 0), some (aI v1), some (aI v2)]) (s1 := [aI (-1000000)]) (h1 := h) rfl ?_
      exact A_reti hM.1 rfl rfl rfl (hq ((-1000000), h) hh)
    · replace hh := OK_f hh hc
      refine A_blk hM.1 3 (lv1 := [some (aR 0), some (aI v1), some (aI v2)]) (s1 := [aI v1, aR 66]) (h1 := h) rfl ?_
      refine A_callV hM rfl rfl (mem_GW 1298 (by decide +kernel) rfl) mi_X5_solve (As := [aI v1]) (rest := []) (ct_X5_solve v1 h (OK_bind hh)) (by decide) ⟨Nat.zero_le _, Nat.zero_le _⟩ rfl rfl (Nat.le_of_ble_eq_true rfl) (by decide) rfl (by decide) rfl (fun r F' h' hq1 => ?_)
      obtain ⟨rfl, r2, rfl, e9, hh⟩ := hq1
      subst h'
      refine A_ifc hM.1 rfl rfl (fun hc => ?_) (fun hc => ?_)
      · replace hh := OK_t hh hc
        refine A_blk hM.1 2 (lv1 := [some (aR 0), some (aI v1), some (aI v2)]) (s1 := [aI (-1), aI v2]) (h1 := r2.2) rfl ?_
        refine A_icmp hM.1 rfl rfl (fun hc => ?_) (fun hc => ?_)
        · replace hh := OK_t hh hc
          refine A_blk hM.1 3 (lv1 := [some (aR 0), some (aI v1), some (aI v2)]) (s1 := [aR 66, aI v2]) (h1 := r2.2) rfl ?_
          refine A_callV hM rfl rfl (mem_GW 1345 (by decide +kernel) rfl) mi_X5_size (As := []) (rest := [aI v2]) (ct_X5_size r2.2 (OK_bind hh)) (by decide) ⟨Nat.zero_le _, Nat.zero_le _⟩ rfl rfl (Nat.le_of_ble_eq_true rfl) (by decide) rfl (by decide) rfl (fun r F' h' hq1 => ?_)
          obtain ⟨rfl, r3, rfl, e9, hh⟩ := hq1
          subst h'
          refine A_icmp hM.1 rfl rfl (fun hc => ?_) (fun hc => ?_)
          · replace hh := OK_t hh hc
            refine A_blk hM.1 1 (lv1 := [some (aR 0), some (aI v1), some (aI v2)]) (s1 := [aI (-1000000)]) (h1 := r2.2) rfl ?_
            exact A_reti hM.1 rfl rfl rfl (hq ((-1000000), r2.2) hh)
          · replace hh := OK_f hh hc
            refine A_blk hM.1 3 (lv1 := [some (aR 0), some (aI v1), some (aI v2)]) (s1 := [aI v2, aR 66]) (h1 := r2.2) rfl ?_
            refine A_callV hM rfl rfl (mem_GW 1349 (by decide +kernel) rfl) mi_X5_bitAt (As := [aI v2]) (rest := []) (ct_X5_bitAt v2 r2.2 (OK_bind hh)) (by decide) ⟨Nat.zero_le _, Nat.zero_le _⟩ rfl rfl (Nat.le_of_ble_eq_true rfl) (by decide) rfl (by decide) rfl (fun r F' h' hq1 => ?_)
            obtain ⟨rfl, r4, rfl, e9, hh⟩ := hq1
            subst h'
            refine A_go hM.1 rfl rfl ?_
            exact A_reti hM.1 rfl rfl rfl (hq (r4, r2.2) hh)
        · replace hh := OK_f hh hc
          refine A_blk hM.1 2 (lv1 := [some (aR 0), some (aI v1), some (aI v2)]) (s1 := [aR 66]) (h1 := r2.2) rfl ?_
          refine A_callV hM rfl rfl (mem_GW 1341 (by decide +kernel) rfl) mi_X5_points (As := []) (rest := []) (ct_X5_points r2.2 (OK_bind hh)) (by decide) ⟨Nat.zero_le _, Nat.zero_le _⟩ rfl rfl (Nat.le_of_ble_eq_true rfl) (by decide) rfl (by decide) rfl (fun r F' h' hq1 => ?_)
          obtain ⟨rfl, r5, rfl, e9, hh⟩ := hq1
          subst h'
          exact A_reti hM.1 rfl rfl rfl (hq (r5, r2.2) hh)
      · replace hh := OK_f hh hc
        refine A_blk hM.1 1 (lv1 := [some (aR 0), some (aI v1), some (aI v2)]) (s1 := [aI (-1000000)]) (h1 := r2.2) rfl ?_
        exact A_reti hM.1 rfl rfl rfl (hq ((-1000000), r2.2) hh)

set_option maxRecDepth 20000 in
set_option maxHeartbeats 4000000 in
theorem ct_X11_order {G : Gx} (v1 : Int) (v2 : Int) (h : Hp)   {P : (Int × Hp) → Prop} (hh : OK (X11_order v1 v2 h) P) : CT G yX11_order M_X11_order 8 0 0 FN h [aR 0, aI v1, aI v2] (fun r F' h' => F' = FN ∧ ∃ z, r = some (aI z.1) ∧ h' = z.2 ∧ P z) :=
  CT.of (by decide +kernel) rfl (Nat.le_of_ble_eq_true rfl) k_X11_order fun k0 _ _ hM => c_X11_order hM v1 v2 h (fun z hz => ⟨rfl, z, rfl, rfl, hz⟩) hh

theorem mi_X5_rows : MIv yX5_rows M_X5_rows 0 := ⟨⟨(mem_GW 1360 (by decide +kernel) rfl), (mem_GW 132 (by decide +kernel) rfl), by decide +kernel, by decide +kernel, by decide +kernel, by decide⟩, (mem_GW 1358 (by decide +kernel) rfl), (mem_GW 1359 (by decide +kernel) rfl)⟩
set_option maxRecDepth 20000 in
set_option maxHeartbeats 4000000 in
theorem c_X5_rows {k0 : K0} {G : Gx} {Qp : Option AV → Fx → Hp → Prop} (hM : MB (KM k0 0 0 Qp) G M_X5_rows 1) (h : Hp)   {P : Int → Prop} (hq : ∀ z : Int, P z → Qp (some (aI z)) FN h) (hh : OK (X5_rows h) P) : ATk (KM k0 0 0 Qp) FN 0 0 M_X5_rows 0 [some (aR 66)] [] h := by
  unfold X5_rows at hh
  refine A_blk hM.1 2 (lv1 := [some (aR 66)]) (s1 := [aI (h 66 15)]) (h1 := h) rfl ?_
  exact A_reti hM.1 rfl rfl rfl (hq (h 66 15) hh)

set_option maxRecDepth 20000 in
set_option maxHeartbeats 4000000 in
theorem ct_X5_rows {G : Gx} (h : Hp)   {P : Int → Prop} (hh : OK (X5_rows h) P) : CT G yX5_rows M_X5_rows 1 0 0 FN h [aR 66] (fun r F' h' => F' = FN ∧ ∃ z, r = some (aI z) ∧ h' = h ∧ P z) :=
  CT.of (by decide +kernel) rfl (Nat.le_of_ble_eq_true rfl) k_X5_rows fun k0 _ _ hM => c_X5_rows hM h (fun z hz => ⟨rfl, z, rfl, rfl, hz⟩) hh

theorem mi_X11_orders : MIv yX11_orders M_X11_orders 1 := ⟨⟨(mem_GW 1356 (by decide +kernel) rfl), (mem_GW 123 (by decide +kernel) rfl), by decide +kernel, by decide +kernel, by decide +kernel, by decide⟩, (mem_GW 1354 (by decide +kernel) rfl), (mem_GW 1355 (by decide +kernel) rfl)⟩
set_option maxRecDepth 20000 in
set_option maxHeartbeats 4000000 in
theorem c_X11_orders {k0 : K0} {G : Gx} {Qp : Option AV → Fx → Hp → Prop} (hM : MB (KM k0 0 0 Qp) G M_X11_orders 8) (v1 : Int) (h : Hp)   {P : (Int × Hp) → Prop} (hq : ∀ z : Int × Hp, P z → Qp (some (aL z.1)) FN z.2) (hh : OK (X11_orders v1 h) P) : ATk (KM k0 0 0 Qp) FN 0 0 M_X11_orders 0 [some (aR 0), some (aI v1)] [] h := by
  unfold X11_orders at hh
  refine A_blk hM.1 3 (lv1 := [some (aR 0), some (aI v1)]) (s1 := [aI v1, aR 3]) (h1 := h) rfl ?_
  refine A_callV hM rfl rfl (mem_GW 632 (by decide +kernel) rfl) mi_X7_isWork (As := [aI v1]) (rest := []) (ct_X7_isWork v1 h (OK_bind hh)) (by decide) ⟨Nat.zero_le _, Nat.zero_le _⟩ rfl rfl (Nat.le_of_ble_eq_true rfl) (by decide) rfl (by decide) rfl (fun r F' h' hq1 => ?_)
  obtain ⟨rfl, r1, rfl, e9, hh⟩ := hq1
  subst h'
  refine A_ifc hM.1 rfl rfl (fun hc => ?_) (fun hc => ?_)
  · replace hh := OK_t hh hc
    refine A_blk hM.1 3 (lv1 := [some (aR 0), some (aI v1)]) (s1 := [aI v1, aR 66]) (h1 := h) rfl ?_
    refine A_callV hM rfl rfl (mem_GW 1298 (by decide +kernel) rfl) mi_X5_solve (As := [aI v1]) (rest := []) (ct_X5_solve v1 h (OK_bind hh)) (by decide) ⟨Nat.zero_le _, Nat.zero_le _⟩ rfl rfl (Nat.le_of_ble_eq_true rfl) (by decide) rfl (by decide) rfl (fun r F' h' hq1 => ?_)
    obtain ⟨rfl, r2, rfl, e9, hh⟩ := hq1
    subst h'
    refine A_ifc hM.1 rfl rfl (fun hc => ?_) (fun hc => ?_)
    · replace hh := OK_t hh hc
      refine A_blk hM.1 1 (lv1 := [some (aR 0), some (aI v1)]) (s1 := [aL 0]) (h1 := r2.2) rfl ?_
      exact A_retl hM.1 rfl rfl rfl (hq (0, r2.2) hh)
    · replace hh := OK_f hh hc
      refine A_blk hM.1 2 (lv1 := [some (aR 0), some (aI v1)]) (s1 := [aR 66]) (h1 := r2.2) rfl ?_
      refine A_callV hM rfl rfl (mem_GW 1357 (by decide +kernel) rfl) mi_X5_rows (As := []) (rest := []) (ct_X5_rows r2.2 (OK_bind hh)) (by decide) ⟨Nat.zero_le _, Nat.zero_le _⟩ rfl rfl (Nat.le_of_ble_eq_true rfl) (by decide) rfl (by decide) rfl (fun r F' h' hq1 => ?_)
      obtain ⟨rfl, r3, rfl, e9, hh⟩ := hq1
      subst h'
      refine A_blk hM.1 1 (lv1 := [some (aR 0), some (aI v1)]) (s1 := [aL (w32 r3)]) (h1 := r2.2) rfl ?_
      refine A_go hM.1 rfl rfl ?_
      exact A_retl hM.1 rfl rfl rfl (hq (w32 r3, r2.2) hh)
  · replace hh := OK_f hh hc
    refine A_blk hM.1 1 (lv1 := [some (aR 0), some (aI v1)]) (s1 := [aL (-1)]) (h1 := h) rfl ?_
    exact A_retl hM.1 rfl rfl rfl (hq ((-1), h) hh)

set_option maxRecDepth 20000 in
set_option maxHeartbeats 4000000 in
theorem ct_X11_orders {G : Gx} (v1 : Int) (h : Hp)   {P : (Int × Hp) → Prop} (hh : OK (X11_orders v1 h) P) : CT G yX11_orders M_X11_orders 8 0 0 FN h [aR 0, aI v1] (fun r F' h' => F' = FN ∧ ∃ z, r = some (aL z.1) ∧ h' = z.2 ∧ P z) :=
  CT.of (by decide +kernel) rfl (Nat.le_of_ble_eq_true rfl) k_X11_orders fun k0 _ _ hM => c_X11_orders hM v1 h (fun z hz => ⟨rfl, z, rfl, rfl, hz⟩) hh

theorem mi_X5_markNext : MIv yX5_markNext M_X5_markNext 3 := ⟨⟨(mem_GW 1376 (by decide +kernel) rfl), (mem_GW 132 (by decide +kernel) rfl), by decide +kernel, by decide +kernel, by decide +kernel, by decide⟩, (mem_GW 1375 (by decide +kernel) rfl), (mem_GW 45 (by decide +kernel) rfl)⟩
set_option maxRecDepth 20000 in
set_option maxHeartbeats 4000000 in
theorem c_X5_markNext_j31 {k0 : K0} {G : Gx} {Qp : Option AV → Fx → Hp → Prop} (hM : MB (KM k0 0 0 Qp) G M_X5_markNext 3) (v1 : Int) (v2 : Int) (v3 : Int) (v4 : Int) (h : Hp)   {P : ((Int × Hp) ⊕ (Hp)) → Prop} (hin : ∀ y : Int × Hp, P (.inl y) → ATk (KM k0 0 0 Qp) FN 0 0 M_X5_markNext 2 [some (aR 66), some (aI v1), some (aI v2), some (aI v3), some (aI y.1), none] [] y.2) (hout0 : ∀ y : Hp, P (.inr y) → ATk (KM k0 0 0 Qp) FN 0 0 M_X5_markNext 33 [none, none, none, none, none, none] [] y) (hh : OK (X5_markNext_j31 v1 v2 v3 v4 h) P) : ATk (KM k0 0 0 Qp) FN 0 0 M_X5_markNext 31 [some (aR 66), some (aI v1), some (aI v2), some (aI v3), some (aI v4), none] [] h := by
  unfold X5_markNext_j31 at hh
  refine A_blk hM.1 1 (lv1 := [some (aR 66), some (aI v1), some (aI v2), some (aI v3), some (aI (v4 + 1)), none]) (s1 := []) (h1 := h) rfl ?_
  refine A_go hM.1 rfl rfl ?_
  exact hin (v4 + 1, h) hh

set_option maxRecDepth 20000 in
set_option maxHeartbeats 4000000 in
theorem c_X5_markNext_l2 {k0 : K0} {G : Gx} {Qp : Option AV → Fx → Hp → Prop} (hM : MB (KM k0 0 0 Qp) G M_X5_markNext 3) (v1 : Int) (v2 : Int) (v3 : Int) (x : Int × Hp)   {P : ((Int × Hp) ⊕ (Hp)) → Prop} (hin : ∀ y : Int × Hp, P (.inl y) → ATk (KM k0 0 0 Qp) FN 0 0 M_X5_markNext 2 [some (aR 66), some (aI v1), some (aI v2), some (aI v3), some (aI y.1), none] [] y.2) (hout0 : ∀ y : Hp, P (.inr y) → ATk (KM k0 0 0 Qp) FN 0 0 M_X5_markNext 33 [none, none, none, none, none, none] [] y) (hh : OK (X5_markNext_l2 v1 v2 v3 x) P) : ATk (KM k0 0 0 Qp) FN 0 0 M_X5_markNext 2 [some (aR 66), some (aI v1), some (aI v2), some (aI v3), some (aI x.1), none] [] x.2 := by
  unfold X5_markNext_l2 at hh
  refine A_blk hM.1 3 (lv1 := [some (aR 66), some (aI v1), some (aI v2), some (aI v3), some (aI x.1), none]) (s1 := [aI (x.2 66 5), aI x.1]) (h1 := x.2) rfl ?_
  refine A_icmp hM.1 rfl rfl (fun hc => ?_) (fun hc => ?_)
  · replace hh := OK_t hh hc
    refine A_mask [false, false, false, false, false, true] (lv1 := [none, none, none, none, none, none]) rfl ?_
    exact hout0 x.2 hh
  · replace hh := OK_f hh hc
    refine A_blk hM.1 4 (lv1 := [some (aR 66), some (aI v1), some (aI v2), some (aI v3), some (aI x.1), none]) (s1 := [aI x.1, aI v2, aI v1, aR 66]) (h1 := x.2) rfl ?_
    refine A_callV hM rfl rfl (mem_GW 1332 (by decide +kernel) rfl) mi_X5_behind (As := [aI v1, aI v2, aI x.1]) (rest := []) (ct_X5_behind v1 v2 x.1 x.2 (OK_bind hh)) (by decide) ⟨Nat.zero_le _, Nat.zero_le _⟩ rfl rfl (Nat.le_of_ble_eq_true rfl) (by decide) rfl (by decide) rfl (fun r F' h' hq1 => ?_)
    obtain ⟨rfl, r1, rfl, e9, hh⟩ := hq1
    subst h'
    refine A_blk hM.1 1 (lv1 := [some (aR 66), some (aI v1), some (aI v2), some (aI v3), some (aI x.1), none]) (s1 := [aI v3, aI r1]) (h1 := x.2) rfl ?_
    refine A_icmp hM.1 rfl rfl (fun hc => ?_) (fun hc => ?_)
    · replace hh := OK_t hh hc
      exact c_X5_markNext_j31 hM v1 v2 v3 x.1 x.2 hin hout0 hh
    · replace hh := OK_f hh hc
      refine A_blk hM.1 12 (lv1 := [some (aR 66), some (aI v1), some (aI v2), some (aI v3), some (aI x.1), some (aI (or32 v1 (shl32 1 x.1)))]) (s1 := [aI (or32 v1 (shl32 1 x.1)), aR 75, aI (or32 v1 (shl32 1 x.1)), aR 75]) (h1 := x.2) rfl ?_
      refine A_callSN (host := "QuotedBooks") hM rfl rfl (mem_NW 1291 (by decide +kernel) rfl) mi_X11_at ms_X11_at (As := [aR 75, aI (or32 v1 (shl32 1 x.1))]) (rest := [aI (or32 v1 (shl32 1 x.1)), aR 75]) (ct_X11_at 75 1024 (or32 v1 (shl32 1 x.1)) x.2 rfl rfl (OK_bind hh)) (by decide) ⟨Nat.zero_le _, Nat.zero_le _⟩ rfl rfl (Nat.le_of_ble_eq_true rfl) (fun r F' h' hq1 => ?_)
      obtain ⟨rfl, r2, rfl, e9, hh⟩ := hq1
      subst h'
      refine A_blk hM.1 4 (lv1 := [some (aR 66), some (aI v1), some (aI v2), some (aI v3), some (aI x.1), some (aI (or32 v1 (shl32 1 x.1)))]) (s1 := [aI (or32 r2 (shl32 1 x.1)), aI (or32 v1 (shl32 1 x.1)), aR 75]) (h1 := x.2) rfl ?_
      refine A_callSN (host := "QuotedBooks") hM rfl rfl (mem_NW 1292 (by decide +kernel) rfl) mi_X11_put ms_X11_put (As := [aR 75, aI (or32 v1 (shl32 1 x.1)), aI (or32 r2 (shl32 1 x.1))]) (rest := []) (ct_X11_put 75 1024 (or32 v1 (shl32 1 x.1)) (or32 r2 (shl32 1 x.1)) x.2 rfl rfl (OK_bind hh)) (by decide) ⟨Nat.zero_le _, Nat.zero_le _⟩ rfl rfl (Nat.le_of_ble_eq_true rfl) (fun r F' h' hq1 => ?_)
      obtain ⟨rfl, rfl, hh⟩ := hq1
      obtain ⟨r3, rfl⟩ : ∃ z, z = h' := ⟨_, rfl⟩
      refine A_mask [true, true, true, true, true, false] (lv1 := [some (aR 66), some (aI v1), some (aI v2), some (aI v3), some (aI x.1), none]) rfl ?_
      exact c_X5_markNext_j31 hM v1 v2 v3 x.1 r3 hin hout0 hh

set_option maxRecDepth 20000 in
set_option maxHeartbeats 4000000 in
theorem c_X5_markNext {k0 : K0} {G : Gx} {Qp : Option AV → Fx → Hp → Prop} (hM : MB (KM k0 0 0 Qp) G M_X5_markNext 3) (v1 : Int) (v2 : Int) (v3 : Int) (h : Hp)   {P : Hp → Prop} (hq : ∀ z : Hp, P z → Qp none FN z) (hh : OK (X5_markNext v1 v2 v3 h) P) : ATk (KM k0 0 0 Qp) FN 0 0 M_X5_markNext 0 [some (aR 66), some (aI v1), some (aI v2), some (aI v3), none, none] [] h := by
  unfold X5_markNext at hh
  refine A_blk hM.1 2 (lv1 := [some (aR 66), some (aI v1), some (aI v2), some (aI v3), some (aI 0), none]) (s1 := []) (h1 := h) rfl ?_
  refine iter_ok (s := (0, h)) (Gp := fun z => ATk (KM k0 0 0 Qp) FN 0 0 M_X5_markNext 2 [some (aR 66), some (aI v1), some (aI v2), some (aI v3), some (aI z.1), none] [] z.2) (E := fun z => ATk (KM k0 0 0 Qp) FN 0 0 M_X5_markNext 33 [none, none, none, none, none, none] [] z) (fun z P1 g1 g2 g3 => c_X5_markNext_l2 hM v1 v2 v3 z g2 g3 g1) (OK_bind hh) (fun x4 hh => ?_)
  exact A_retv hM.1 rfl rfl rfl (hq x4 hh)

set_option maxRecDepth 20000 in
set_option maxHeartbeats 4000000 in
theorem ct_X5_markNext {G : Gx} (v1 : Int) (v2 : Int) (v3 : Int) (h : Hp)   {P : Hp → Prop} (hh : OK (X5_markNext v1 v2 v3 h) P) : CT G yX5_markNext M_X5_markNext 3 0 0 FN h [aR 66, aI v1, aI v2, aI v3] (fun r F' h' => F' = FN ∧ r = none ∧ P h') :=
  CT.of (by decide +kernel) rfl (Nat.le_of_ble_eq_true rfl) k_X5_markNext fun k0 _ _ hM => c_X5_markNext hM v1 v2 v3 h (fun z hz => ⟨rfl, rfl, hz⟩) hh

theorem mi_X5_compareAll : MIv yX5_compareAll M_X5_compareAll 0 := ⟨⟨(mem_GW 1372 (by decide +kernel) rfl), (mem_GW 132 (by decide +kernel) rfl), by decide +kernel, by decide +kernel, by decide +kernel, by decide⟩, (mem_GW 1371 (by decide +kernel) rfl), (mem_GW 44 (by decide +kernel) rfl)⟩
set_option maxRecDepth 20000 in
set_option maxHeartbeats 4000000 in
theorem c_X5_compareAll_l2 {k0 : K0} {G : Gx} {Qp : Option AV → Fx → Hp → Prop} (hM : MB (KM k0 0 0 Qp) G M_X5_compareAll 4) (x : Int × Hp)   {P : ((Int × Hp) ⊕ (Hp)) → Prop} (hin : ∀ y : Int × Hp, P (.inl y) → ATk (KM k0 0 0 Qp) FN 0 0 M_X5_compareAll 2 [some (aR 66), some (aI y.1), none] [] y.2) (hout0 : ∀ y : Hp, P (.inr y) → ATk (KM k0 0 0 Qp) FN 0 0 M_X5_compareAll 12 [some (aR 66), none, none] [] y) (hh : OK (X5_compareAll_l2 x) P) : ATk (KM k0 0 0 Qp) FN 0 0 M_X5_compareAll 2 [some (aR 66), some (aI x.1), none] [] x.2 := by
  unfold X5_compareAll_l2 at hh
  refine A_blk hM.1 2 (lv1 := [some (aR 66), some (aI x.1), none]) (s1 := [aI 10, aI x.1]) (h1 := x.2) rfl ?_
  refine A_icmp hM.1 rfl rfl (fun hc => ?_) (fun hc => ?_)
  · replace hh := OK_t hh hc
    refine A_mask [true, false, true] (lv1 := [some (aR 66), none, none]) rfl ?_
    exact hout0 x.2 hh
  · replace hh := OK_f hh hc
    refine A_blk hM.1 4 (lv1 := [some (aR 66), some (aI x.1), none]) (s1 := [aI 0, aI x.1, aR 76]) (h1 := x.2) rfl ?_
    obtain ⟨g1, hh⟩ := OK_g hh
    refine A_ast hM.1 rfl (Or.inl ⟨rfl, rfl, rfl⟩) rfl rfl rfl g1 ?_
    refine A_blk hM.1 1 (lv1 := [some (aR 66), some (aI (x.1 + 1)), none]) (s1 := []) (h1 := setH x.2 76 ((w32 x.1).toNat) 0) rfl ?_
    refine A_go hM.1 rfl rfl ?_
    exact hin (x.1 + 1, setH x.2 76 ((w32 x.1).toNat) 0) hh

set_option maxRecDepth 20000 in
set_option maxHeartbeats 4000000 in
theorem c_X5_compareAll_l14 {k0 : K0} {G : Gx} {Qp : Option AV → Fx → Hp → Prop} (hM : MB (KM k0 0 0 Qp) G M_X5_compareAll 4) (x : Int × Hp)   {P : ((Int × Hp) ⊕ (Hp)) → Prop} (hin : ∀ y : Int × Hp, P (.inl y) → ATk (KM k0 0 0 Qp) FN 0 0 M_X5_compareAll 14 [some (aR 66), some (aI y.1), none] [] y.2) (hout0 : ∀ y : Hp, P (.inr y) → ATk (KM k0 0 0 Qp) FN 0 0 M_X5_compareAll 24 [some (aR 66), none, none] [] y) (hh : OK (X5_compareAll_l14 x) P) : ATk (KM k0 0 0 Qp) FN 0 0 M_X5_compareAll 14 [some (aR 66), some (aI x.1), none] [] x.2 := by
  unfold X5_compareAll_l14 at hh
  refine A_blk hM.1 2 (lv1 := [some (aR 66), some (aI x.1), none]) (s1 := [aI 1024, aI x.1]) (h1 := x.2) rfl ?_
  refine A_icmp hM.1 rfl rfl (fun hc => ?_) (fun hc => ?_)
  · replace hh := OK_t hh hc
    refine A_mask [true, false, true] (lv1 := [some (aR 66), none, none]) rfl ?_
    exact hout0 x.2 hh
  · replace hh := OK_f hh hc
    refine A_blk hM.1 4 (lv1 := [some (aR 66), some (aI x.1), none]) (s1 := [aI 0, aI x.1, aR 75]) (h1 := x.2) rfl ?_
    obtain ⟨g3, hh⟩ := OK_g hh
    refine A_ast hM.1 rfl (Or.inl ⟨rfl, rfl, rfl⟩) rfl rfl rfl g3 ?_
    refine A_blk hM.1 1 (lv1 := [some (aR 66), some (aI (x.1 + 1)), none]) (s1 := []) (h1 := setH x.2 75 ((w32 x.1).toNat) 0) rfl ?_
    refine A_go hM.1 rfl rfl ?_
    exact hin (x.1 + 1, setH x.2 75 ((w32 x.1).toNat) 0) hh

set_option maxRecDepth 20000 in
set_option maxHeartbeats 4000000 in
theorem c_X5_compareAll_j81 {k0 : K0} {G : Gx} {Qp : Option AV → Fx → Hp → Prop} (hM : MB (KM k0 0 0 Qp) G M_X5_compareAll 4) (v1 : Int) (v2 : Int) (h : Hp)   {P : ((Int × Hp) ⊕ (Hp)) → Prop} (hin : ∀ y : Int × Hp, P (.inl y) → ATk (KM k0 0 0 Qp) FN 0 0 M_X5_compareAll 43 [some (aR 66), some (aI v1), some (aI y.1)] [] y.2) (hout0 : ∀ y : Hp, P (.inr y) → ATk (KM k0 0 0 Qp) FN 0 0 M_X5_compareAll 83 [some (aR 66), some (aI v1), none] [] y) (hh : OK (X5_compareAll_j81 v1 v2 h) P) : ATk (KM k0 0 0 Qp) FN 0 0 M_X5_compareAll 81 [some (aR 66), some (aI v1), some (aI v2)] [] h := by
  unfold X5_compareAll_j81 at hh
  refine A_blk hM.1 1 (lv1 := [some (aR 66), some (aI v1), some (aI (v2 + 1))]) (s1 := []) (h1 := h) rfl ?_
  refine A_go hM.1 rfl rfl ?_
  exact hin (v2 + 1, h) hh

set_option maxRecDepth 20000 in
set_option maxHeartbeats 4000000 in
theorem c_X5_compareAll_l43 {k0 : K0} {G : Gx} {Qp : Option AV → Fx → Hp → Prop} (hM : MB (KM k0 0 0 Qp) G M_X5_compareAll 4) (v1 : Int) (x : Int × Hp)   {P : ((Int × Hp) ⊕ (Hp)) → Prop} (hin : ∀ y : Int × Hp, P (.inl y) → ATk (KM k0 0 0 Qp) FN 0 0 M_X5_compareAll 43 [some (aR 66), some (aI v1), some (aI y.1)] [] y.2) (hout0 : ∀ y : Hp, P (.inr y) → ATk (KM k0 0 0 Qp) FN 0 0 M_X5_compareAll 83 [some (aR 66), some (aI v1), none] [] y) (hh : OK (X5_compareAll_l43 v1 x) P) : ATk (KM k0 0 0 Qp) FN 0 0 M_X5_compareAll 43 [some (aR 66), some (aI v1), some (aI x.1)] [] x.2 := by
  unfold X5_compareAll_l43 at hh
  refine A_blk hM.1 3 (lv1 := [some (aR 66), some (aI v1), some (aI x.1)]) (s1 := [aI (x.2 66 5), aI x.1]) (h1 := x.2) rfl ?_
  refine A_icmp hM.1 rfl rfl (fun hc => ?_) (fun hc => ?_)
  · replace hh := OK_t hh hc
    refine A_mask [true, true, false] (lv1 := [some (aR 66), some (aI v1), none]) rfl ?_
    exact hout0 x.2 hh
  · replace hh := OK_f hh hc
    refine A_blk hM.1 3 (lv1 := [some (aR 66), some (aI v1), some (aI x.1)]) (s1 := [aI v1, aR 75]) (h1 := x.2) rfl ?_
    obtain ⟨g6, hh⟩ := OK_g hh
    refine A_ald hM.1 rfl (Or.inl ⟨rfl, rfl⟩) rfl (by decide) rfl g6 ?_
    refine A_blk hM.1 5 (lv1 := [some (aR 66), some (aI v1), some (aI x.1)]) (s1 := [aI 1, aI (and32 (ushr32 (x.2 75 ((w32 v1).toNat)) x.1) 1)]) (h1 := x.2) rfl ?_
    refine A_icmp hM.1 rfl rfl (fun hc => ?_) (fun hc => ?_)
    · replace hh := OK_t hh hc
      exact c_X5_compareAll_j81 hM v1 x.1 x.2 hin hout0 hh
    · replace hh := OK_f hh hc
      refine A_blk hM.1 6 (lv1 := [some (aR 66), some (aI v1), some (aI x.1)]) (s1 := [aI x.1, aR 76, aI x.1, aR 76]) (h1 := x.2) rfl ?_
      refine A_callSN (host := "QuotedBooks") hM rfl rfl (mem_NW 1291 (by decide +kernel) rfl) mi_X11_at ms_X11_at (As := [aR 76, aI x.1]) (rest := [aI x.1, aR 76]) (ct_X11_at 76 10 x.1 x.2 rfl rfl (OK_bind hh)) (by decide) ⟨Nat.zero_le _, Nat.zero_le _⟩ rfl rfl (Nat.le_of_ble_eq_true rfl) (fun r F' h' hq1 => ?_)
      obtain ⟨rfl, r7, rfl, e9, hh⟩ := hq1
      subst h'
      refine A_blk hM.1 4 (lv1 := [some (aR 66), some (aI v1), some (aI x.1)]) (s1 := [aI (or32 r7 (xor32 v1 (-1))), aI x.1, aR 76]) (h1 := x.2) rfl ?_
      refine A_callSN (host := "QuotedBooks") hM rfl rfl (mem_NW 1292 (by decide +kernel) rfl) mi_X11_put ms_X11_put (As := [aR 76, aI x.1, aI (or32 r7 (xor32 v1 (-1)))]) (rest := []) (ct_X11_put 76 10 x.1 (or32 r7 (xor32 v1 (-1))) x.2 rfl rfl (OK_bind hh)) (by decide) ⟨Nat.zero_le _, Nat.zero_le _⟩ rfl rfl (Nat.le_of_ble_eq_true rfl) (fun r F' h' hq1 => ?_)
      obtain ⟨rfl, rfl, hh⟩ := hq1
      obtain ⟨r8, rfl⟩ : ∃ z, z = h' := ⟨_, rfl⟩
      refine A_blk hM.1 10 (lv1 := [some (aR 66), some (aI v1), some (aI x.1)]) (s1 := [aI ((v1 * 10) + x.1), aR 72, aI x.1, aI v1, aR 66]) (h1 := r8) rfl ?_
      refine A_callSN (host := "QuotedBooks") hM rfl rfl (mem_NW 1291 (by decide +kernel) rfl) mi_X11_at ms_X11_at (As := [aR 72, aI ((v1 * 10) + x.1)]) (rest := [aI x.1, aI v1, aR 66]) (ct_X11_at 72 10240 ((v1 * 10) + x.1) r8 rfl rfl (OK_bind hh)) (by decide) ⟨Nat.zero_le _, Nat.zero_le _⟩ rfl rfl (Nat.le_of_ble_eq_true rfl) (fun r F' h' hq1 => ?_)
      obtain ⟨rfl, r9, rfl, e9, hh⟩ := hq1
      subst h'
      refine A_callV hM rfl rfl (mem_GW 1373 (by decide +kernel) rfl) mi_X5_markNext (As := [aI v1, aI x.1, aI r9]) (rest := []) (ct_X5_markNext v1 x.1 r9 r8 (OK_bind hh)) (by decide) ⟨Nat.zero_le _, Nat.zero_le _⟩ rfl rfl (Nat.le_of_ble_eq_true rfl) (by decide) rfl (by decide) rfl (fun r F' h' hq1 => ?_)
      obtain ⟨rfl, rfl, hh⟩ := hq1
      obtain ⟨r10, rfl⟩ : ∃ z, z = h' := ⟨_, rfl⟩
      exact c_X5_compareAll_j81 hM v1 x.1 r10 hin hout0 hh

set_option maxRecDepth 20000 in
set_option maxHeartbeats 4000000 in
theorem c_X5_compareAll_l32 {k0 : K0} {G : Gx} {Qp : Option AV → Fx → Hp → Prop} (hM : MB (KM k0 0 0 Qp) G M_X5_compareAll 4) (x : Int × Hp)   {P : ((Int × Hp) ⊕ (Hp)) → Prop} (hin : ∀ y : Int × Hp, P (.inl y) → ATk (KM k0 0 0 Qp) FN 0 0 M_X5_compareAll 32 [some (aR 66), some (aI y.1), none] [] y.2) (hout0 : ∀ y : Hp, P (.inr y) → ATk (KM k0 0 0 Qp) FN 0 0 M_X5_compareAll 85 [none, none, none] [] y) (hh : OK (X5_compareAll_l32 x) P) : ATk (KM k0 0 0 Qp) FN 0 0 M_X5_compareAll 32 [some (aR 66), some (aI x.1), none] [] x.2 := by
  unfold X5_compareAll_l32 at hh
  refine A_blk hM.1 5 (lv1 := [some (aR 66), some (aI x.1), none]) (s1 := [aI (shl32 1 (x.2 66 5)), aI x.1]) (h1 := x.2) rfl ?_
  refine A_icmp hM.1 rfl rfl (fun hc => ?_) (fun hc => ?_)
  · replace hh := OK_t hh hc
    refine A_mask [false, false, true] (lv1 := [none, none, none]) rfl ?_
    exact hout0 x.2 hh
  · replace hh := OK_f hh hc
    refine A_blk hM.1 2 (lv1 := [some (aR 66), some (aI x.1), none]) (s1 := [aI 1024, aI x.1]) (h1 := x.2) rfl ?_
    refine A_icmp hM.1 rfl rfl (fun hc => ?_) (fun hc => ?_)
    · replace hh := OK_t hh hc
      refine A_mask [false, false, true] (lv1 := [none, none, none]) rfl ?_
      exact hout0 x.2 hh
    · replace hh := OK_f hh hc
      refine A_blk hM.1 2 (lv1 := [some (aR 66), some (aI x.1), some (aI 0)]) (s1 := []) (h1 := x.2) rfl ?_
      refine iter_ok (s := (0, x.2)) (Gp := fun z => ATk (KM k0 0 0 Qp) FN 0 0 M_X5_compareAll 43 [some (aR 66), some (aI x.1), some (aI z.1)] [] z.2) (E := fun z => ATk (KM k0 0 0 Qp) FN 0 0 M_X5_compareAll 83 [some (aR 66), some (aI x.1), none] [] z) (fun z P1 g1 g2 g3 => c_X5_compareAll_l43 hM x.1 z g2 g3 g1) (OK_bind hh) (fun x11 hh => ?_)
      refine A_blk hM.1 1 (lv1 := [some (aR 66), some (aI (x.1 + 1)), none]) (s1 := []) (h1 := x11) rfl ?_
      refine A_go hM.1 rfl rfl ?_
      exact hin (x.1 + 1, x11) hh

set_option maxRecDepth 20000 in
set_option maxHeartbeats 4000000 in
theorem c_X5_compareAll {k0 : K0} {G : Gx} {Qp : Option AV → Fx → Hp → Prop} (hM : MB (KM k0 0 0 Qp) G M_X5_compareAll 4) (h : Hp)   {P : Hp → Prop} (hq : ∀ z : Hp, P z → Qp none FN z) (hh : OK (X5_compareAll h) P) : ATk (KM k0 0 0 Qp) FN 0 0 M_X5_compareAll 0 [some (aR 66), none, none] [] h := by
  unfold X5_compareAll at hh
  refine A_blk hM.1 2 (lv1 := [some (aR 66), some (aI 0), none]) (s1 := []) (h1 := h) rfl ?_
  refine iter_ok (s := (0, h)) (Gp := fun z => ATk (KM k0 0 0 Qp) FN 0 0 M_X5_compareAll 2 [some (aR 66), some (aI z.1), none] [] z.2) (E := fun z => ATk (KM k0 0 0 Qp) FN 0 0 M_X5_compareAll 12 [some (aR 66), none, none] [] z) (fun z P1 g1 g2 g3 => c_X5_compareAll_l2 hM  z g2 g3 g1) (OK_bind hh) (fun x2 hh => ?_)
  refine A_blk hM.1 2 (lv1 := [some (aR 66), some (aI 0), none]) (s1 := []) (h1 := x2) rfl ?_
  refine iter_ok (s := (0, x2)) (Gp := fun z => ATk (KM k0 0 0 Qp) FN 0 0 M_X5_compareAll 14 [some (aR 66), some (aI z.1), none] [] z.2) (E := fun z => ATk (KM k0 0 0 Qp) FN 0 0 M_X5_compareAll 24 [some (aR 66), none, none] [] z) (fun z P1 g1 g2 g3 => c_X5_compareAll_l14 hM  z g2 g3 g1) (OK_bind hh) (fun x4 hh => ?_)
  refine A_blk hM.1 5 (lv1 := [some (aR 66), none, none]) (s1 := [aI (x4 66 14), aI (-1), aI 0, aR 66]) (h1 := x4) rfl ?_
  refine A_callV hM rfl rfl (mem_GW 1373 (by decide +kernel) rfl) mi_X5_markNext (As := [aI 0, aI (-1), aI (x4 66 14)]) (rest := []) (ct_X5_markNext 0 (-1) (x4 66 14) x4 (OK_bind hh)) (by decide) ⟨Nat.zero_le _, Nat.zero_le _⟩ rfl rfl (Nat.le_of_ble_eq_true rfl) (by decide) rfl (by decide) rfl (fun r F' h' hq1 => ?_)
  obtain ⟨rfl, rfl, hh⟩ := hq1
  obtain ⟨r5, rfl⟩ : ∃ z, z = h' := ⟨_, rfl⟩
  refine A_blk hM.1 2 (lv1 := [some (aR 66), some (aI 1), none]) (s1 := []) (h1 := r5) rfl ?_
  refine iter_ok (s := (1, r5)) (Gp := fun z => ATk (KM k0 0 0 Qp) FN 0 0 M_X5_compareAll 32 [some (aR 66), some (aI z.1), none] [] z.2) (E := fun z => ATk (KM k0 0 0 Qp) FN 0 0 M_X5_compareAll 85 [none, none, none] [] z) (fun z P1 g1 g2 g3 => c_X5_compareAll_l32 hM  z g2 g3 g1) (OK_bind hh) (fun x12 hh => ?_)
  exact A_retv hM.1 rfl rfl rfl (hq x12 hh)

set_option maxRecDepth 20000 in
set_option maxHeartbeats 4000000 in
theorem ct_X5_compareAll {G : Gx} (h : Hp)   {P : Hp → Prop} (hh : OK (X5_compareAll h) P) : CT G yX5_compareAll M_X5_compareAll 4 0 0 FN h [aR 66] (fun r F' h' => F' = FN ∧ r = none ∧ P h') :=
  CT.of (by decide +kernel) rfl (Nat.le_of_ble_eq_true rfl) k_X5_compareAll fun k0 _ _ hM => c_X5_compareAll hM h (fun z hz => ⟨rfl, rfl, hz⟩) hh

theorem mi_X5_isAheadInAll : MIv yX5_isAheadInAll M_X5_isAheadInAll 2 := ⟨⟨(mem_GW 1368 (by decide +kernel) rfl), (mem_GW 132 (by decide +kernel) rfl), by decide +kernel, by decide +kernel, by decide +kernel, by decide⟩, (mem_GW 1366 (by decide +kernel) rfl), (mem_GW 1367 (by decide +kernel) rfl)⟩
set_option maxRecDepth 20000 in
set_option maxHeartbeats 4000000 in
theorem c_X5_isAheadInAll_j8 {k0 : K0} {G : Gx} {Qp : Option AV → Fx → Hp → Prop} (hM : MB (KM k0 0 0 Qp) G M_X5_isAheadInAll 5) (v1 : Int) (v2 : Int) (h : Hp)   {P : (Int × Hp) → Prop} (hq : ∀ z : Int × Hp, P z → Qp (some (aI z.1)) FN z.2) (hh : OK (X5_isAheadInAll_j8 v1 v2 h) P) : ATk (KM k0 0 0 Qp) FN 0 0 M_X5_isAheadInAll 8 [some (aR 66), some (aI v1), some (aI v2)] [] h := by
  unfold X5_isAheadInAll_j8 at hh
  refine A_blk hM.1 4 (lv1 := [some (aR 66), some (aI v1), some (aI v2)]) (s1 := [aI v2, aR 66, aR 76]) (h1 := h) rfl ?_
  refine A_callV hM rfl rfl (mem_GW 1308 (by decide +kernel) rfl) mi_X5_placeOf (As := [aI v2]) (rest := [aR 76]) (ct_X5_placeOf v2 h (OK_bind hh)) (by decide) ⟨Nat.zero_le _, Nat.zero_le _⟩ rfl rfl (Nat.le_of_ble_eq_true rfl) (by decide) rfl (by decide) rfl (fun r F' h' hq1 => ?_)
  obtain ⟨rfl, r1, rfl, e9, hh⟩ := hq1
  subst h'
  refine A_callSN (host := "QuotedBooks") hM rfl rfl (mem_NW 1291 (by decide +kernel) rfl) mi_X11_at ms_X11_at (As := [aR 76, aI r1]) (rest := []) (ct_X11_at 76 10 r1 h rfl rfl (OK_bind hh)) (by decide) ⟨Nat.zero_le _, Nat.zero_le _⟩ rfl rfl (Nat.le_of_ble_eq_true rfl) (fun r F' h' hq1 => ?_)
  obtain ⟨rfl, r2, rfl, e9, hh⟩ := hq1
  subst h'
  refine A_blk hM.1 2 (lv1 := [some (aR 66), some (aI v1), some (aI v2)]) (s1 := [aI v1, aR 66, aI r2]) (h1 := h) rfl ?_
  refine A_callV hM rfl rfl (mem_GW 1308 (by decide +kernel) rfl) mi_X5_placeOf (As := [aI v1]) (rest := [aI r2]) (ct_X5_placeOf v1 h (OK_bind hh)) (by decide) ⟨Nat.zero_le _, Nat.zero_le _⟩ rfl rfl (Nat.le_of_ble_eq_true rfl) (by decide) rfl (by decide) rfl (fun r F' h' hq1 => ?_)
  obtain ⟨rfl, r3, rfl, e9, hh⟩ := hq1
  subst h'
  refine A_blk hM.1 3 (lv1 := [some (aR 66), some (aI v1), some (aI v2)]) (s1 := [aI (and32 (ushr32 r2 r3) 1)]) (h1 := h) rfl ?_
  refine A_ifc hM.1 rfl rfl (fun hc => ?_) (fun hc => ?_)
  · replace hh := OK_t hh hc
    refine A_blk hM.1 1 (lv1 := [some (aR 66), some (aI v1), some (aI v2)]) (s1 := [aI 0]) (h1 := h) rfl ?_
    exact A_retz hM.1 rfl rfl rfl (by decide) (hq (0, h) hh)
  · replace hh := OK_f hh hc
    refine A_blk hM.1 1 (lv1 := [some (aR 66), some (aI v1), some (aI v2)]) (s1 := [aI 1]) (h1 := h) rfl ?_
    refine A_go hM.1 rfl rfl ?_
    exact A_retz hM.1 rfl rfl rfl (by decide) (hq (1, h) hh)

set_option maxRecDepth 20000 in
set_option maxHeartbeats 4000000 in
theorem c_X5_isAheadInAll {k0 : K0} {G : Gx} {Qp : Option AV → Fx → Hp → Prop} (hM : MB (KM k0 0 0 Qp) G M_X5_isAheadInAll 5) (v1 : Int) (v2 : Int) (h : Hp)   {P : (Int × Hp) → Prop} (hq : ∀ z : Int × Hp, P z → Qp (some (aI z.1)) FN z.2) (hh : OK (X5_isAheadInAll v1 v2 h) P) : ATk (KM k0 0 0 Qp) FN 0 0 M_X5_isAheadInAll 0 [some (aR 66), some (aI v1), some (aI v2)] [] h := by
  unfold X5_isAheadInAll at hh
  refine A_blk hM.1 2 (lv1 := [some (aR 66), some (aI v1), some (aI v2)]) (s1 := [aI (h 66 17)]) (h1 := h) rfl ?_
  refine A_ifc hM.1 rfl rfl (fun hc => ?_) (fun hc => ?_)
  · replace hh := OK_t hh hc
    exact c_X5_isAheadInAll_j8 hM v1 v2 h hq hh
  · replace hh := OK_f hh hc
    refine A_blk hM.1 1 (lv1 := [some (aR 66), some (aI v1), some (aI v2)]) (s1 := [aR 66]) (h1 := h) rfl ?_
    refine A_callV hM rfl rfl (mem_GW 1369 (by decide +kernel) rfl) mi_X5_compareAll (As := []) (rest := []) (ct_X5_compareAll h (OK_bind hh)) (by decide) ⟨Nat.zero_le _, Nat.zero_le _⟩ rfl rfl (Nat.le_of_ble_eq_true rfl) (by decide) rfl (by decide) rfl (fun r F' h' hq1 => ?_)
    obtain ⟨rfl, rfl, hh⟩ := hq1
    obtain ⟨r4, rfl⟩ : ∃ z, z = h' := ⟨_, rfl⟩
    refine A_blk hM.1 2 (lv1 := [some (aR 66), some (aI v1), some (aI v2)]) (s1 := [aI 1, aR 66]) (h1 := r4) rfl ?_
    refine A_putz hM.1 rfl rfl rfl (by decide) rfl rfl rfl (by decide) ?_
    exact c_X5_isAheadInAll_j8 hM v1 v2 (setH r4 66 17 1) hq hh

set_option maxRecDepth 20000 in
set_option maxHeartbeats 4000000 in
theorem ct_X5_isAheadInAll {G : Gx} (v1 : Int) (v2 : Int) (h : Hp)   {P : (Int × Hp) → Prop} (hh : OK (X5_isAheadInAll v1 v2 h) P) : CT G yX5_isAheadInAll M_X5_isAheadInAll 5 0 0 FN h [aR 66, aI v1, aI v2] (fun r F' h' => F' = FN ∧ ∃ z, r = some (aI z.1) ∧ h' = z.2 ∧ P z) :=
  CT.of (by decide +kernel) rfl (Nat.le_of_ble_eq_true rfl) k_X5_isAheadInAll fun k0 _ _ hM => c_X5_isAheadInAll hM v1 v2 h (fun z hz => ⟨rfl, z, rfl, rfl, hz⟩) hh

theorem mi_X11_sure : MIv yX11_sure M_X11_sure 2 := ⟨⟨(mem_GW 1364 (by decide +kernel) rfl), (mem_GW 123 (by decide +kernel) rfl), by decide +kernel, by decide +kernel, by decide +kernel, by decide⟩, (mem_GW 1362 (by decide +kernel) rfl), (mem_GW 1363 (by decide +kernel) rfl)⟩
set_option maxRecDepth 20000 in
set_option maxHeartbeats 4000000 in
theorem c_X11_sure {k0 : K0} {G : Gx} {Qp : Option AV → Fx → Hp → Prop} (hM : MB (KM k0 0 0 Qp) G M_X11_sure 8) (v1 : Int) (v2 : Int) (h : Hp)   {P : (Int × Hp) → Prop} (hq : ∀ z : Int × Hp, P z → Qp (some (aI z.1)) FN z.2) (hh : OK (X11_sure v1 v2 h) P) : ATk (KM k0 0 0 Qp) FN 0 0 M_X11_sure 0 [some (aR 0), some (aI v1), some (aI v2)] [] h := by
  unfold X11_sure at hh
  refine A_blk hM.1 3 (lv1 := [some (aR 0), some (aI v1), some (aI v2)]) (s1 := [aI v1, aR 3]) (h1 := h) rfl ?_
  refine A_callV hM rfl rfl (mem_GW 986 (by decide +kernel) rfl) mi_X7_isBit (As := [aI v1]) (rest := []) (ct_X7_isBit v1 h (OK_bind hh)) (by decide) ⟨Nat.zero_le _, Nat.zero_le _⟩ rfl rfl (Nat.le_of_ble_eq_true rfl) (by decide) rfl (by decide) rfl (fun r F' h' hq1 => ?_)
  obtain ⟨rfl, r1, rfl, e9, hh⟩ := hq1
  subst h'
  refine A_ifc hM.1 rfl rfl (fun hc => ?_) (fun hc => ?_)
  · replace hh := OK_t hh hc
    refine A_blk hM.1 1 (lv1 := [some (aR 0), some (aI v1), some (aI v2)]) (s1 := [aI (-1)]) (h1 := h) rfl ?_
    exact A_reti hM.1 rfl rfl rfl (hq ((-1), h) hh)
  · replace hh := OK_f hh hc
    refine A_blk hM.1 3 (lv1 := [some (aR 0), some (aI v1), some (aI v2)]) (s1 := [aI v2, aR 3]) (h1 := h) rfl ?_
    refine A_callV hM rfl rfl (mem_GW 986 (by decide +kernel) rfl) mi_X7_isBit (As := [aI v2]) (rest := []) (ct_X7_isBit v2 h (OK_bind hh)) (by decide) ⟨Nat.zero_le _, Nat.zero_le _⟩ rfl rfl (Nat.le_of_ble_eq_true rfl) (by decide) rfl (by decide) rfl (fun r F' h' hq1 => ?_)
    obtain ⟨rfl, r2, rfl, e9, hh⟩ := hq1
    subst h'
    refine A_ifc hM.1 rfl rfl (fun hc => ?_) (fun hc => ?_)
    · replace hh := OK_t hh hc
      refine A_blk hM.1 1 (lv1 := [some (aR 0), some (aI v1), some (aI v2)]) (s1 := [aI (-1)]) (h1 := h) rfl ?_
      exact A_reti hM.1 rfl rfl rfl (hq ((-1), h) hh)
    · replace hh := OK_f hh hc
      refine A_blk hM.1 2 (lv1 := [some (aR 0), some (aI v1), some (aI v2)]) (s1 := [aI v2, aI v1]) (h1 := h) rfl ?_
      refine A_icmp hM.1 rfl rfl (fun hc => ?_) (fun hc => ?_)
      · replace hh := OK_t hh hc
        refine A_blk hM.1 1 (lv1 := [some (aR 0), some (aI v1), some (aI v2)]) (s1 := [aI (-1)]) (h1 := h) rfl ?_
        exact A_reti hM.1 rfl rfl rfl (hq ((-1), h) hh)
      · replace hh := OK_f hh hc
        refine A_blk hM.1 4 (lv1 := [some (aR 0), some (aI v1), some (aI v2)]) (s1 := [aI v2, aI v1, aR 3]) (h1 := h) rfl ?_
        refine A_callV hM rfl rfl (mem_GW 1282 (by decide +kernel) rfl) mi_X7_ofOneWork (As := [aI v1, aI v2]) (rest := []) (ct_X7_ofOneWork v1 v2 h (OK_bind hh)) (by decide) ⟨Nat.zero_le _, Nat.zero_le _⟩ rfl rfl (Nat.le_of_ble_eq_true rfl) (by decide) rfl (by decide) rfl (fun r F' h' hq1 => ?_)
        obtain ⟨rfl, r3, rfl, e9, hh⟩ := hq1
        subst h'
        refine A_ifc hM.1 rfl rfl (fun hc => ?_) (fun hc => ?_)
        · replace hh := OK_t hh hc
          refine A_blk hM.1 5 (lv1 := [some (aR 0), some (aI v1), some (aI v2)]) (s1 := [aI v1, aR 3, aR 66]) (h1 := h) rfl ?_
          refine A_callV hM rfl rfl (mem_GW 999 (by decide +kernel) rfl) mi_X7_bitWork (As := [aI v1]) (rest := [aR 66]) (ct_X7_bitWork v1 h (OK_bind hh)) (by decide) ⟨Nat.zero_le _, Nat.zero_le _⟩ rfl rfl (Nat.le_of_ble_eq_true rfl) (by decide) rfl (by decide) rfl (fun r F' h' hq1 => ?_)
          obtain ⟨rfl, r4, rfl, e9, hh⟩ := hq1
          subst h'
          refine A_callV hM rfl rfl (mem_GW 1298 (by decide +kernel) rfl) mi_X5_solve (As := [aI r4]) (rest := []) (ct_X5_solve r4 h (OK_bind hh)) (by decide) ⟨Nat.zero_le _, Nat.zero_le _⟩ rfl rfl (Nat.le_of_ble_eq_true rfl) (by decide) rfl (by decide) rfl (fun r F' h' hq1 => ?_)
          obtain ⟨rfl, r5, rfl, e9, hh⟩ := hq1
          subst h'
          refine A_ifc hM.1 rfl rfl (fun hc => ?_) (fun hc => ?_)
          · replace hh := OK_t hh hc
            refine A_blk hM.1 4 (lv1 := [some (aR 0), some (aI v1), some (aI v2)]) (s1 := [aI v2, aI v1, aR 66]) (h1 := r5.2) rfl ?_
            refine A_callV hM rfl rfl (mem_GW 1365 (by decide +kernel) rfl) mi_X5_isAheadInAll (As := [aI v1, aI v2]) (rest := []) (ct_X5_isAheadInAll v1 v2 r5.2 (OK_bind hh)) (by decide) ⟨Nat.zero_le _, Nat.zero_le _⟩ rfl rfl (Nat.le_of_ble_eq_true rfl) (by decide) rfl (by decide) rfl (fun r F' h' hq1 => ?_)
            obtain ⟨rfl, r6, rfl, e9, hh⟩ := hq1
            subst h'
            refine A_ifc hM.1 rfl rfl (fun hc => ?_) (fun hc => ?_)
            · replace hh := OK_t hh hc
              refine A_blk hM.1 1 (lv1 := [some (aR 0), some (aI v1), some (aI v2)]) (s1 := [aI 0]) (h1 := r6.2) rfl ?_
              exact A_reti hM.1 rfl rfl rfl (hq (0, r6.2) hh)
            · replace hh := OK_f hh hc
              refine A_blk hM.1 1 (lv1 := [some (aR 0), some (aI v1), some (aI v2)]) (s1 := [aI 1]) (h1 := r6.2) rfl ?_
              refine A_go hM.1 rfl rfl ?_
              exact A_reti hM.1 rfl rfl rfl (hq (1, r6.2) hh)
          · replace hh := OK_f hh hc
            refine A_blk hM.1 1 (lv1 := [some (aR 0), some (aI v1), some (aI v2)]) (s1 := [aI (-2)]) (h1 := r5.2) rfl ?_
            exact A_reti hM.1 rfl rfl rfl (hq ((-2), r5.2) hh)
        · replace hh := OK_f hh hc
          refine A_blk hM.1 1 (lv1 := [some (aR 0), some (aI v1), some (aI v2)]) (s1 := [aI (-1)]) (h1 := h) rfl ?_
          exact A_reti hM.1 rfl rfl rfl (hq ((-1), h) hh)

set_option maxRecDepth 20000 in
set_option maxHeartbeats 4000000 in
theorem ct_X11_sure {G : Gx} (v1 : Int) (v2 : Int) (h : Hp)   {P : (Int × Hp) → Prop} (hh : OK (X11_sure v1 v2 h) P) : CT G yX11_sure M_X11_sure 8 0 0 FN h [aR 0, aI v1, aI v2] (fun r F' h' => F' = FN ∧ ∃ z, r = some (aI z.1) ∧ h' = z.2 ∧ P z) :=
  CT.of (by decide +kernel) rfl (Nat.le_of_ble_eq_true rfl) k_X11_sure fun k0 _ _ hM => c_X11_sure hM v1 v2 h (fun z hz => ⟨rfl, z, rfl, rfl, hz⟩) hh

theorem mi_X11_tableProduct : MIv yX11_tableProduct M_X11_tableProduct 3 := ⟨⟨(mem_GW 1384 (by decide +kernel) rfl), (mem_GW 123 (by decide +kernel) rfl), by decide +kernel, by decide +kernel, by decide +kernel, by decide⟩, (mem_GW 1383 (by decide +kernel) rfl), (mem_GW 46 (by decide +kernel) rfl)⟩
set_option maxRecDepth 20000 in
set_option maxHeartbeats 4000000 in
theorem c_X11_tableProduct_j43 {k0 : K0} {G : Gx} {Qp : Option AV → Fx → Hp → Prop} (hM : MB (KM k0 0 0 Qp) G M_X11_tableProduct 5) (v1 : Int) (v5 : Int) (v7 : Int) (h : Hp)   {P : ((Int × Int × Hp) ⊕ (Int × Hp)) → Prop} (hin : ∀ y : Int × Int × Hp, P (.inl y) → ATk (KM k0 0 0 Qp) FN 0 0 M_X11_tableProduct 14 [some (aR 0), some (aL v1), none, none, none, some (aL y.1), none, some (aI y.2.1)] [] y.2.2) (hout0 : ∀ y : Int × Hp, P (.inr y) → ATk (KM k0 0 0 Qp) FN 0 0 M_X11_tableProduct 45 [none, none, none, none, none, some (aL y.1), none, none] [] y.2) (hh : OK (X11_tableProduct_j43 v1 v5 v7 h) P) : ATk (KM k0 0 0 Qp) FN 0 0 M_X11_tableProduct 43 [some (aR 0), some (aL v1), none, none, none, some (aL v5), none, some (aI v7)] [] h := by
  unfold X11_tableProduct_j43 at hh
  refine A_blk hM.1 1 (lv1 := [some (aR 0), some (aL v1), none, none, none, some (aL v5), none, some (aI (v7 + 1))]) (s1 := []) (h1 := h) rfl ?_
  refine A_go hM.1 rfl rfl ?_
  exact hin (v5, v7 + 1, h) hh

set_option maxRecDepth 20000 in
set_option maxHeartbeats 4000000 in
theorem c_X11_tableProduct_l14 {k0 : K0} {G : Gx} {Qp : Option AV → Fx → Hp → Prop} (hM : MB (KM k0 0 0 Qp) G M_X11_tableProduct 5) (v1 : Int) (x : Int × Int × Hp)   {P : ((Int × Int × Hp) ⊕ (Int × Hp)) → Prop} (hin : ∀ y : Int × Int × Hp, P (.inl y) → ATk (KM k0 0 0 Qp) FN 0 0 M_X11_tableProduct 14 [some (aR 0), some (aL v1), none, none, none, some (aL y.1), none, some (aI y.2.1)] [] y.2.2) (hout0 : ∀ y : Int × Hp, P (.inr y) → ATk (KM k0 0 0 Qp) FN 0 0 M_X11_tableProduct 45 [none, none, none, none, none, some (aL y.1), none, none] [] y.2) (hh : OK (X11_tableProduct_l14 v1 x) P) : ATk (KM k0 0 0 Qp) FN 0 0 M_X11_tableProduct 14 [some (aR 0), some (aL v1), none, none, none, some (aL x.1), none, some (aI x.2.1)] [] x.2.2 := by
  unfold X11_tableProduct_l14 at hh
  refine A_blk hM.1 2 (lv1 := [some (aR 0), some (aL v1), none, none, none, some (aL x.1), none, some (aI x.2.1)]) (s1 := [aI 40, aI x.2.1]) (h1 := x.2.2) rfl ?_
  refine A_icmp hM.1 rfl rfl (fun hc => ?_) (fun hc => ?_)
  · replace hh := OK_t hh hc
    refine A_mask [false, false, true, true, true, true, true, false] (lv1 := [none, none, none, none, none, some (aL x.1), none, none]) rfl ?_
    exact hout0 (x.1, x.2.2) hh
  · replace hh := OK_f hh hc
    refine A_blk hM.1 7 (lv1 := [some (aR 0), some (aL v1), none, none, none, some (aL x.1), none, some (aI x.2.1)]) (s1 := [aI (cmp64 (and64 (ushr64 v1 x.2.1) 1) 1)]) (h1 := x.2.2) rfl ?_
    refine A_ifc hM.1 rfl rfl (fun hc => ?_) (fun hc => ?_)
    · replace hh := OK_t hh hc
      exact c_X11_tableProduct_j43 hM v1 x.1 x.2.1 x.2.2 hin hout0 hh
    · replace hh := OK_f hh hc
      refine A_blk hM.1 6 (lv1 := [some (aR 0), some (aL v1), none, none, none, some (aL x.1), none, some (aI x.2.1)]) (s1 := [aI x.2.1, aR 3, aI 98, aR 44]) (h1 := x.2.2) rfl ?_
      refine A_callV hM rfl rfl (mem_GW 1003 (by decide +kernel) rfl) mi_X7_bitBook (As := [aI x.2.1]) (rest := [aI 98, aR 44]) (ct_X7_bitBook x.2.1 x.2.2 (OK_bind hh)) (by decide) ⟨Nat.zero_le _, Nat.zero_le _⟩ rfl rfl (Nat.le_of_ble_eq_true rfl) (by decide) rfl (by decide) rfl (fun r F' h' hq1 => ?_)
      obtain ⟨rfl, r3, rfl, e9, hh⟩ := hq1
      subst h'
      refine A_callV hM rfl rfl (mem_GW 925 (by decide +kernel) rfl) mi_X10_let (As := [aI 98, aI r3]) (rest := []) (ct_X10_let 44 98 r3 x.2.2 (by decide) (OK_bind hh)) (by decide) ⟨Nat.zero_le _, Nat.zero_le _⟩ rfl rfl (Nat.le_of_ble_eq_true rfl) (by decide) rfl (by decide) rfl (fun r F' h' hq1 => ?_)
      obtain ⟨rfl, rfl, hh⟩ := hq1
      obtain ⟨r4, rfl⟩ : ∃ z, z = h' := ⟨_, rfl⟩
      refine A_blk hM.1 6 (lv1 := [some (aR 0), some (aL v1), none, none, none, some (aL x.1), none, some (aI x.2.1)]) (s1 := [aI 100, aI 0, aI 103, aR 44, aL x.1]) (h1 := r4) rfl ?_
      refine A_callV hM rfl rfl (mem_GW 945 (by decide +kernel) rfl) mi_X10_value (As := [aI 103, aI 0, aI 100]) (rest := [aL x.1]) (ct_X10_value 44 103 0 100 r4 (by decide) (OK_bind hh)) (by decide) ⟨Nat.zero_le _, Nat.zero_le _⟩ rfl rfl (Nat.le_of_ble_eq_true rfl) (by decide) rfl (by decide) rfl (fun r F' h' hq1 => ?_)
      obtain ⟨rfl, r5, rfl, e9, hh⟩ := hq1
      subst h'
      refine A_blk hM.1 3 (lv1 := [some (aR 0), some (aL v1), none, none, none, some (aL (x.1 * (w32 r5.1))), none, some (aI x.2.1)]) (s1 := []) (h1 := r5.2) rfl ?_
      exact c_X11_tableProduct_j43 hM v1 (x.1 * (w32 r5.1)) x.2.1 r5.2 hin hout0 hh

set_option maxRecDepth 20000 in
set_option maxHeartbeats 4000000 in
theorem c_X11_tableProduct {k0 : K0} {G : Gx} {Qp : Option AV → Fx → Hp → Prop} (hM : MB (KM k0 0 0 Qp) G M_X11_tableProduct 5) (v1 : Int) (v3 : Int) (v4 : Int) (h : Hp)   {P : (Int × Hp) → Prop} (hq : ∀ z : Int × Hp, P z → Qp (some (aL z.1)) FN z.2) (hh : OK (X11_tableProduct v1 v3 v4 h) P) : ATk (KM k0 0 0 Qp) FN 0 0 M_X11_tableProduct 0 [some (aR 0), some (aL v1), none, some (aI v3), some (aI v4), none, none, none] [] h := by
  unfold X11_tableProduct at hh
  refine A_blk hM.1 6 (lv1 := [some (aR 0), some (aL v1), none, some (aI v3), some (aI v4), some (aL 1), none, none]) (s1 := [aI v4, aI 99, aR 44]) (h1 := h) rfl ?_
  refine A_callV hM rfl rfl (mem_GW 925 (by decide +kernel) rfl) mi_X10_let (As := [aI 99, aI v4]) (rest := []) (ct_X10_let 44 99 v4 h (by decide) (OK_bind hh)) (by decide) ⟨Nat.zero_le _, Nat.zero_le _⟩ rfl rfl (Nat.le_of_ble_eq_true rfl) (by decide) rfl (by decide) rfl (fun r F' h' hq1 => ?_)
  obtain ⟨rfl, rfl, hh⟩ := hq1
  obtain ⟨r1, rfl⟩ : ∃ z, z = h' := ⟨_, rfl⟩
  refine A_blk hM.1 4 (lv1 := [some (aR 0), some (aL v1), none, some (aI v3), some (aI v4), some (aL 1), none, none]) (s1 := [aI v3, aI 110, aR 44]) (h1 := r1) rfl ?_
  refine A_callV hM rfl rfl (mem_GW 925 (by decide +kernel) rfl) mi_X10_let (As := [aI 110, aI v3]) (rest := []) (ct_X10_let 44 110 v3 r1 (by decide) (OK_bind hh)) (by decide) ⟨Nat.zero_le _, Nat.zero_le _⟩ rfl rfl (Nat.le_of_ble_eq_true rfl) (by decide) rfl (by decide) rfl (fun r F' h' hq1 => ?_)
  obtain ⟨rfl, rfl, hh⟩ := hq1
  obtain ⟨r2, rfl⟩ : ∃ z, z = h' := ⟨_, rfl⟩
  refine A_blk hM.1 2 (lv1 := [some (aR 0), some (aL v1), none, some (aI v3), some (aI v4), some (aL 1), none, some (aI 0)]) (s1 := []) (h1 := r2) rfl ?_
  refine A_mask [true, true, true, false, false, true, true, true] (lv1 := [some (aR 0), some (aL v1), none, none, none, some (aL 1), none, some (aI 0)]) rfl ?_
  refine iter_ok (s := (1, 0, r2)) (Gp := fun z => ATk (KM k0 0 0 Qp) FN 0 0 M_X11_tableProduct 14 [some (aR 0), some (aL v1), none, none, none, some (aL z.1), none, some (aI z.2.1)] [] z.2.2) (E := fun z => ATk (KM k0 0 0 Qp) FN 0 0 M_X11_tableProduct 45 [none, none, none, none, none, some (aL z.1), none, none] [] z.2) (fun z P1 g1 g2 g3 => c_X11_tableProduct_l14 hM v1 z g2 g3 g1) (OK_bind hh) (fun x6 hh => ?_)
  refine A_blk hM.1 1 (lv1 := [none, none, none, none, none, some (aL x6.1), none, none]) (s1 := [aL x6.1]) (h1 := x6.2) rfl ?_
  exact A_retl hM.1 rfl rfl rfl (hq (x6.1, x6.2) hh)

set_option maxRecDepth 20000 in
set_option maxHeartbeats 4000000 in
theorem ct_X11_tableProduct {G : Gx} (v1 : Int) (v3 : Int) (v4 : Int) (h : Hp)   {P : (Int × Hp) → Prop} (hh : OK (X11_tableProduct v1 v3 v4 h) P) : CT G yX11_tableProduct M_X11_tableProduct 5 0 0 FN h [aR 0, aL v1, aI v3, aI v4] (fun r F' h' => F' = FN ∧ ∃ z, r = some (aL z.1) ∧ h' = z.2 ∧ P z) :=
  CT.of (by decide +kernel) rfl (Nat.le_of_ble_eq_true rfl) k_X11_tableProduct fun k0 _ _ hM => c_X11_tableProduct hM v1 v3 v4 h (fun z hz => ⟨rfl, z, rfl, rfl, hz⟩) hh

theorem mi_X11_truth : MIv yX11_truth M_X11_truth 3 := ⟨⟨(mem_GW 1380 (by decide +kernel) rfl), (mem_GW 123 (by decide +kernel) rfl), by decide +kernel, by decide +kernel, by decide +kernel, by decide⟩, (mem_GW 1378 (by decide +kernel) rfl), (mem_GW 1379 (by decide +kernel) rfl)⟩
set_option maxRecDepth 20000 in
set_option maxHeartbeats 4000000 in
theorem c_X11_truth_j41 {k0 : K0} {G : Gx} {Qp : Option AV → Fx → Hp → Prop} (hM : MB (KM k0 0 0 Qp) G M_X11_truth 6) (v1 : Int) (v3 : Int) (v4 : Int) (v6 : Int) (h : Hp)   {P : ((Int × Hp) ⊕ ((Hp) ⊕ (Hp))) → Prop} (hin : ∀ y : Int × Hp, P (.inl y) → ATk (KM k0 0 0 Qp) FN 0 0 M_X11_truth 22 [some (aR 0), some (aL v1), none, some (aI v3), some (aI v4), none, some (aI y.1), none, none] [] y.2) (hout0 : ∀ y : Hp, P (.inr (.inl y)) → ATk (KM k0 0 0 Qp) FN 0 0 M_X11_truth 39 [none, none, none, none, none, none, none, none, none] [] y) (hout1 : ∀ y : Hp, P (.inr (.inr y)) → ATk (KM k0 0 0 Qp) FN 0 0 M_X11_truth 43 [some (aR 0), some (aL v1), none, some (aI v3), some (aI v4), none, none, none, none] [] y) (hh : OK (X11_truth_j41 v1 v3 v4 v6 h) P) : ATk (KM k0 0 0 Qp) FN 0 0 M_X11_truth 41 [some (aR 0), some (aL v1), none, some (aI v3), some (aI v4), none, some (aI v6), none, none] [] h := by
  unfold X11_truth_j41 at hh
  refine A_blk hM.1 1 (lv1 := [some (aR 0), some (aL v1), none, some (aI v3), some (aI v4), none, some (aI (v6 + 1)), none, none]) (s1 := []) (h1 := h) rfl ?_
  refine A_go hM.1 rfl rfl ?_
  exact hin (v6 + 1, h) hh

set_option maxRecDepth 20000 in
set_option maxHeartbeats 4000000 in
theorem c_X11_truth_l22 {k0 : K0} {G : Gx} {Qp : Option AV → Fx → Hp → Prop} (hM : MB (KM k0 0 0 Qp) G M_X11_truth 6) (v1 : Int) (v3 : Int) (v4 : Int) (x : Int × Hp)   {P : ((Int × Hp) ⊕ ((Hp) ⊕ (Hp))) → Prop} (hin : ∀ y : Int × Hp, P (.inl y) → ATk (KM k0 0 0 Qp) FN 0 0 M_X11_truth 22 [some (aR 0), some (aL v1), none, some (aI v3), some (aI v4), none, some (aI y.1), none, none] [] y.2) (hout0 : ∀ y : Hp, P (.inr (.inl y)) → ATk (KM k0 0 0 Qp) FN 0 0 M_X11_truth 39 [none, none, none, none, none, none, none, none, none] [] y) (hout1 : ∀ y : Hp, P (.inr (.inr y)) → ATk (KM k0 0 0 Qp) FN 0 0 M_X11_truth 43 [some (aR 0), some (aL v1), none, some (aI v3), some (aI v4), none, none, none, none] [] y) (hh : OK (X11_truth_l22 v1 v3 v4 x) P) : ATk (KM k0 0 0 Qp) FN 0 0 M_X11_truth 22 [some (aR 0), some (aL v1), none, some (aI v3), some (aI v4), none, some (aI x.1), none, none] [] x.2 := by
  unfold X11_truth_l22 at hh
  refine A_blk hM.1 2 (lv1 := [some (aR 0), some (aL v1), none, some (aI v3), some (aI v4), none, some (aI x.1), none, none]) (s1 := [aI 64, aI x.1]) (h1 := x.2) rfl ?_
  refine A_icmp hM.1 rfl rfl (fun hc => ?_) (fun hc => ?_)
  · replace hh := OK_t hh hc
    refine A_mask [true, true, true, true, true, true, false, true, true] (lv1 := [some (aR 0), some (aL v1), none, some (aI v3), some (aI v4), none, none, none, none]) rfl ?_
    exact hout1 x.2 hh
  · replace hh := OK_f hh hc
    refine A_blk hM.1 7 (lv1 := [some (aR 0), some (aL v1), none, some (aI v3), some (aI v4), none, some (aI x.1), none, none]) (s1 := [aI (cmp64 (and64 (ushr64 v1 x.1) 1) 1)]) (h1 := x.2) rfl ?_
    refine A_ifc hM.1 rfl rfl (fun hc => ?_) (fun hc => ?_)
    · replace hh := OK_t hh hc
      exact c_X11_truth_j41 hM v1 v3 v4 x.1 x.2 hin hout0 hout1 hh
    · replace hh := OK_f hh hc
      refine A_blk hM.1 3 (lv1 := [some (aR 0), some (aL v1), none, some (aI v3), some (aI v4), none, some (aI x.1), none, none]) (s1 := [aI x.1, aR 3]) (h1 := x.2) rfl ?_
      refine A_callV hM rfl rfl (mem_GW 1003 (by decide +kernel) rfl) mi_X7_bitBook (As := [aI x.1]) (rest := []) (ct_X7_bitBook x.1 x.2 (OK_bind hh)) (by decide) ⟨Nat.zero_le _, Nat.zero_le _⟩ rfl rfl (Nat.le_of_ble_eq_true rfl) (by decide) rfl (by decide) rfl (fun r F' h' hq1 => ?_)
      obtain ⟨rfl, r5, rfl, e9, hh⟩ := hq1
      subst h'
      refine A_blk hM.1 1 (lv1 := [some (aR 0), some (aL v1), none, some (aI v3), some (aI v4), none, some (aI x.1), none, none]) (s1 := [aI 1, aI r5]) (h1 := x.2) rfl ?_
      refine A_icmp hM.1 rfl rfl (fun hc => ?_) (fun hc => ?_)
      · replace hh := OK_t hh hc
        exact c_X11_truth_j41 hM v1 v3 v4 x.1 x.2 hin hout0 hout1 hh
      · replace hh := OK_f hh hc
        refine A_mask [false, false, true, false, false, true, false, true, true] (lv1 := [none, none, none, none, none, none, none, none, none]) rfl ?_
        exact hout0 x.2 hh

set_option maxRecDepth 20000 in
set_option maxHeartbeats 4000000 in
theorem c_X11_truth_l55 {k0 : K0} {G : Gx} {Qp : Option AV → Fx → Hp → Prop} (hM : MB (KM k0 0 0 Qp) G M_X11_truth 6) (v1 : Int) (v3 : Int) (x : Int × Int × Hp)   {P : ((Int × Int × Hp) ⊕ (Int × Hp)) → Prop} (hin : ∀ y : Int × Int × Hp, P (.inl y) → ATk (KM k0 0 0 Qp) FN 0 0 M_X11_truth 55 [some (aR 0), some (aL v1), none, some (aI v3), none, none, some (aL y.1), none, some (aI y.2.1)] [] y.2.2) (hout0 : ∀ y : Int × Hp, P (.inr y) → ATk (KM k0 0 0 Qp) FN 0 0 M_X11_truth 68 [none, none, none, none, none, none, some (aL y.1), none, none] [] y.2) (hh : OK (X11_truth_l55 v1 v3 x) P) : ATk (KM k0 0 0 Qp) FN 0 0 M_X11_truth 55 [some (aR 0), some (aL v1), none, some (aI v3), none, none, some (aL x.1), none, some (aI x.2.1)] [] x.2.2 := by
  unfold X11_truth_l55 at hh
  refine A_blk hM.1 2 (lv1 := [some (aR 0), some (aL v1), none, some (aI v3), none, none, some (aL x.1), none, some (aI x.2.1)]) (s1 := [aI v3, aI x.2.1]) (h1 := x.2.2) rfl ?_
  refine A_icmp hM.1 rfl rfl (fun hc => ?_) (fun hc => ?_)
  · replace hh := OK_t hh hc
    refine A_mask [false, false, true, false, true, true, true, true, false] (lv1 := [none, none, none, none, none, none, some (aL x.1), none, none]) rfl ?_
    exact hout0 (x.1, x.2.2) hh
  · replace hh := OK_f hh hc
    refine A_blk hM.1 5 (lv1 := [some (aR 0), some (aL v1), none, some (aI v3), none, none, some (aL x.1), none, some (aI x.2.1)]) (s1 := [aI x.2.1, aI v3, aL v1, aR 0, aL x.1]) (h1 := x.2.2) rfl ?_
    refine A_callV hM rfl rfl (mem_GW 1381 (by decide +kernel) rfl) mi_X11_tableProduct (As := [aL v1, aI v3, aI x.2.1]) (rest := [aL x.1]) (ct_X11_tableProduct v1 v3 x.2.1 x.2.2 (OK_bind hh)) (by decide) ⟨Nat.zero_le _, Nat.zero_le _⟩ rfl rfl (Nat.le_of_ble_eq_true rfl) (by decide) rfl (by decide) rfl (fun r F' h' hq1 => ?_)
    obtain ⟨rfl, r9, rfl, e9, hh⟩ := hq1
    subst h'
    refine A_blk hM.1 3 (lv1 := [some (aR 0), some (aL v1), none, some (aI v3), none, none, some (aL (x.1 + r9.1)), none, some (aI (x.2.1 + 1))]) (s1 := []) (h1 := r9.2) rfl ?_
    refine A_go hM.1 rfl rfl ?_
    exact hin (x.1 + r9.1, x.2.1 + 1, r9.2) hh

set_option maxRecDepth 20000 in
set_option maxHeartbeats 4000000 in
theorem c_X11_truth {k0 : K0} {G : Gx} {Qp : Option AV → Fx → Hp → Prop} (hM : MB (KM k0 0 0 Qp) G M_X11_truth 6) (v1 : Int) (v3 : Int) (v4 : Int) (h : Hp)   {P : (Int × Hp) → Prop} (hq : ∀ z : Int × Hp, P z → Qp (some (aL z.1)) FN z.2) (hh : OK (X11_truth v1 v3 v4 h) P) : ATk (KM k0 0 0 Qp) FN 0 0 M_X11_truth 0 [some (aR 0), some (aL v1), none, some (aI v3), some (aI v4), none, none, none, none] [] h := by
  unfold X11_truth at hh
  refine A_blk hM.1 1 (lv1 := [some (aR 0), some (aL v1), none, some (aI v3), some (aI v4), none, none, none, none]) (s1 := [aL v1]) (h1 := h) rfl ?_
  refine A_callS hM rfl rfl (mem_GW 1139 (by decide +kernel) rfl) mi_J13_bitCount ms_J13_bitCount (As := [aL v1]) (rest := []) (ct_J13_bitCount v1 h (OK_bind hh)) (by decide) ⟨Nat.zero_le _, Nat.zero_le _⟩ rfl rfl (Nat.le_of_ble_eq_true rfl) (fun r F' h' hq1 => ?_)
  obtain ⟨rfl, r1, rfl, e9, hh⟩ := hq1
  subst h'
  refine A_blk hM.1 4 (lv1 := [some (aR 0), some (aL v1), none, some (aI v3), some (aI v4), some (aI r1), none, none, none]) (s1 := [aI 6, aI 1, aI r1]) (h1 := h) rfl ?_
  refine A_callS hM rfl rfl (mem_GW 576 (by decide +kernel) rfl) mi_X11_within ms_X11_within (As := [aI r1, aI 1, aI 6]) (rest := []) (ct_X11_within r1 1 6 h (OK_bind hh)) (by decide) ⟨Nat.zero_le _, Nat.zero_le _⟩ rfl rfl (Nat.le_of_ble_eq_true rfl) (fun r F' h' hq1 => ?_)
  obtain ⟨rfl, r2, rfl, e9, hh⟩ := hq1
  subst h'
  refine A_ifc hM.1 rfl rfl (fun hc => ?_) (fun hc => ?_)
  · replace hh := OK_t hh hc
    refine A_blk hM.1 1 (lv1 := [some (aR 0), some (aL v1), none, some (aI v3), some (aI v4), some (aI r1), none, none, none]) (s1 := [aL (-1)]) (h1 := h) rfl ?_
    exact A_retl hM.1 rfl rfl rfl (hq ((-1), h) hh)
  · replace hh := OK_f hh hc
    refine A_blk hM.1 3 (lv1 := [some (aR 0), some (aL v1), none, some (aI v3), some (aI v4), some (aI r1), none, none, none]) (s1 := [aI 40, aI 1, aI v3]) (h1 := h) rfl ?_
    refine A_callS hM rfl rfl (mem_GW 576 (by decide +kernel) rfl) mi_X11_within ms_X11_within (As := [aI v3, aI 1, aI 40]) (rest := []) (ct_X11_within v3 1 40 h (OK_bind hh)) (by decide) ⟨Nat.zero_le _, Nat.zero_le _⟩ rfl rfl (Nat.le_of_ble_eq_true rfl) (fun r F' h' hq1 => ?_)
    obtain ⟨rfl, r3, rfl, e9, hh⟩ := hq1
    subst h'
    refine A_ifc hM.1 rfl rfl (fun hc => ?_) (fun hc => ?_)
    · replace hh := OK_t hh hc
      refine A_blk hM.1 1 (lv1 := [some (aR 0), some (aL v1), none, some (aI v3), some (aI v4), some (aI r1), none, none, none]) (s1 := [aL (-1)]) (h1 := h) rfl ?_
      exact A_retl hM.1 rfl rfl rfl (hq ((-1), h) hh)
    · replace hh := OK_f hh hc
      refine A_blk hM.1 3 (lv1 := [some (aR 0), some (aL v1), none, some (aI v3), some (aI v4), some (aI r1), none, none, none]) (s1 := [aI v3, aI 0, aI v4]) (h1 := h) rfl ?_
      refine A_callS hM rfl rfl (mem_GW 576 (by decide +kernel) rfl) mi_X11_within ms_X11_within (As := [aI v4, aI 0, aI v3]) (rest := []) (ct_X11_within v4 0 v3 h (OK_bind hh)) (by decide) ⟨Nat.zero_le _, Nat.zero_le _⟩ rfl rfl (Nat.le_of_ble_eq_true rfl) (fun r F' h' hq1 => ?_)
      obtain ⟨rfl, r4, rfl, e9, hh⟩ := hq1
      subst h'
      refine A_ifc hM.1 rfl rfl (fun hc => ?_) (fun hc => ?_)
      · replace hh := OK_t hh hc
        refine A_blk hM.1 2 (lv1 := [some (aR 0), some (aL v1), none, some (aI v3), some (aI v4), some (aI r1), some (aI 0), none, none]) (s1 := []) (h1 := h) rfl ?_
        refine A_mask [true, true, true, true, true, false, true, true, true] (lv1 := [some (aR 0), some (aL v1), none, some (aI v3), some (aI v4), none, some (aI 0), none, none]) rfl ?_
        refine iter_ok (s := (0, h)) (Gp := fun z => ATk (KM k0 0 0 Qp) FN 0 0 M_X11_truth 22 [some (aR 0), some (aL v1), none, some (aI v3), some (aI v4), none, some (aI z.1), none, none] [] z.2) (E := fun z => (∀ y, z = (.inl y) → ATk (KM k0 0 0 Qp) FN 0 0 M_X11_truth 39 [none, none, none, none, none, none, none, none, none] [] y) ∧ (∀ y, z = (.inr y) → ATk (KM k0 0 0 Qp) FN 0 0 M_X11_truth 43 [some (aR 0), some (aL v1), none, some (aI v3), some (aI v4), none, none, none, none] [] y)) (fun z P1 g1 g2 g3 => c_X11_truth_l22 hM v1 v3 v4 z g2 (fun y hy => (g3 (.inl y) hy).1 y rfl) (fun y hy => (g3 (.inr y) hy).2 y rfl) g1) (OK_bind hh) (fun x6 hh => ?_)
        refine ⟨fun y e => ?_, fun y e => ?_⟩
        · obtain ⟨y7, rfl⟩ : ∃ z, z = y := ⟨_, rfl⟩
          subst e
          refine A_blk hM.1 1 (lv1 := [none, none, none, none, none, none, none, none, none]) (s1 := [aL (-1)]) (h1 := y7) rfl ?_
          exact A_retl hM.1 rfl rfl rfl (hq ((-1), y7) hh)
        · obtain ⟨y8, rfl⟩ : ∃ z, z = y := ⟨_, rfl⟩
          subst e
          refine A_blk hM.1 1 (lv1 := [some (aR 0), some (aL v1), none, some (aI v3), some (aI v4), none, none, none, none]) (s1 := [aI v4]) (h1 := y8) rfl ?_
          refine A_ifc hM.1 rfl rfl (fun hc => ?_) (fun hc => ?_)
          · replace hh := OK_t hh hc
            refine A_blk hM.1 4 (lv1 := [some (aR 0), some (aL v1), none, some (aI v3), some (aI v4), none, some (aL 0), none, some (aI 1)]) (s1 := []) (h1 := y8) rfl ?_
            refine A_mask [true, true, true, true, false, true, true, true, true] (lv1 := [some (aR 0), some (aL v1), none, some (aI v3), none, none, some (aL 0), none, some (aI 1)]) rfl ?_
            refine iter_ok (s := (0, 1, y8)) (Gp := fun z => ATk (KM k0 0 0 Qp) FN 0 0 M_X11_truth 55 [some (aR 0), some (aL v1), none, some (aI v3), none, none, some (aL z.1), none, some (aI z.2.1)] [] z.2.2) (E := fun z => ATk (KM k0 0 0 Qp) FN 0 0 M_X11_truth 68 [none, none, none, none, none, none, some (aL z.1), none, none] [] z.2) (fun z P1 g1 g2 g3 => c_X11_truth_l55 hM v1 v3 z g2 g3 g1) (OK_bind hh) (fun x10 hh => ?_)
            refine A_blk hM.1 1 (lv1 := [none, none, none, none, none, none, some (aL x10.1), none, none]) (s1 := [aL x10.1]) (h1 := x10.2) rfl ?_
            exact A_retl hM.1 rfl rfl rfl (hq (x10.1, x10.2) hh)
          · replace hh := OK_f hh hc
            refine A_blk hM.1 4 (lv1 := [some (aR 0), some (aL v1), none, some (aI v3), some (aI v4), none, none, none, none]) (s1 := [aI v4, aI v3, aL v1, aR 0]) (h1 := y8) rfl ?_
            refine A_callV hM rfl rfl (mem_GW 1381 (by decide +kernel) rfl) mi_X11_tableProduct (As := [aL v1, aI v3, aI v4]) (rest := []) (ct_X11_tableProduct v1 v3 v4 y8 (OK_bind hh)) (by decide) ⟨Nat.zero_le _, Nat.zero_le _⟩ rfl rfl (Nat.le_of_ble_eq_true rfl) (by decide) rfl (by decide) rfl (fun r F' h' hq1 => ?_)
            obtain ⟨rfl, r11, rfl, e9, hh⟩ := hq1
            subst h'
            exact A_retl hM.1 rfl rfl rfl (hq (r11.1, r11.2) hh)
      · replace hh := OK_f hh hc
        refine A_blk hM.1 1 (lv1 := [some (aR 0), some (aL v1), none, some (aI v3), some (aI v4), some (aI r1), none, none, none]) (s1 := [aL (-1)]) (h1 := h) rfl ?_
        exact A_retl hM.1 rfl rfl rfl (hq ((-1), h) hh)

set_option maxRecDepth 20000 in
set_option maxHeartbeats 4000000 in
theorem ct_X11_truth {G : Gx} (v1 : Int) (v3 : Int) (v4 : Int) (h : Hp)   {P : (Int × Hp) → Prop} (hh : OK (X11_truth v1 v3 v4 h) P) : CT G yX11_truth M_X11_truth 6 0 0 FN h [aR 0, aL v1, aI v3, aI v4] (fun r F' h' => F' = FN ∧ ∃ z, r = some (aL z.1) ∧ h' = z.2 ∧ P z) :=
  CT.of (by decide +kernel) rfl (Nat.le_of_ble_eq_true rfl) k_X11_truth fun k0 _ _ hM => c_X11_truth hM v1 v3 v4 h (fun z hz => ⟨rfl, z, rfl, rfl, hz⟩) hh

theorem mi_X7_toldBooks : MIv yX7_toldBooks M_X7_toldBooks 1 := ⟨⟨(mem_GW 1392 (by decide +kernel) rfl), (mem_GW 125 (by decide +kernel) rfl), by decide +kernel, by decide +kernel, by decide +kernel, by decide⟩, (mem_GW 1390 (by decide +kernel) rfl), (mem_GW 1391 (by decide +kernel) rfl)⟩
set_option maxRecDepth 20000 in
set_option maxHeartbeats 4000000 in
theorem c_X7_toldBooks_j27 {k0 : K0} {G : Gx} {Qp : Option AV → Fx → Hp → Prop} (hM : MB (KM k0 0 0 Qp) G M_X7_toldBooks 3) (v1 : Int) (v2 : Int) (v4 : Int) (h : Hp)   {P : ((Int × Int) ⊕ (Int)) → Prop} (hin : ∀ y : Int × Int, P (.inl y) → ATk (KM k0 0 0 Qp) FN 0 0 M_X7_toldBooks 4 [some (aR 3), some (aI v1), some (aL y.1), none, some (aI y.2), none] [] h) (hout0 : ∀ y : Int, P (.inr y) → ATk (KM k0 0 0 Qp) FN 0 0 M_X7_toldBooks 29 [none, none, some (aL y), none, none, none] [] h) (hh : OK (X7_toldBooks_j27 v1 v2 v4 h) P) : ATk (KM k0 0 0 Qp) FN 0 0 M_X7_toldBooks 27 [some (aR 3), some (aI v1), some (aL v2), none, some (aI v4), none] [] h := by
  unfold X7_toldBooks_j27 at hh
  refine A_blk hM.1 1 (lv1 := [some (aR 3), some (aI v1), some (aL v2), none, some (aI (v4 + 1)), none]) (s1 := []) (h1 := h) rfl ?_
  refine A_go hM.1 rfl rfl ?_
  exact hin (v2, v4 + 1) hh

set_option maxRecDepth 20000 in
set_option maxHeartbeats 4000000 in
theorem c_X7_toldBooks_l4 {k0 : K0} {G : Gx} {Qp : Option AV → Fx → Hp → Prop} (hM : MB (KM k0 0 0 Qp) G M_X7_toldBooks 3) (v1 : Int) (h : Hp) (x : Int × Int)   {P : ((Int × Int) ⊕ (Int)) → Prop} (hin : ∀ y : Int × Int, P (.inl y) → ATk (KM k0 0 0 Qp) FN 0 0 M_X7_toldBooks 4 [some (aR 3), some (aI v1), some (aL y.1), none, some (aI y.2), none] [] h) (hout0 : ∀ y : Int, P (.inr y) → ATk (KM k0 0 0 Qp) FN 0 0 M_X7_toldBooks 29 [none, none, some (aL y), none, none, none] [] h) (hh : OK (X7_toldBooks_l4 v1 h x) P) : ATk (KM k0 0 0 Qp) FN 0 0 M_X7_toldBooks 4 [some (aR 3), some (aI v1), some (aL x.1), none, some (aI x.2), none] [] h := by
  unfold X7_toldBooks_l4 at hh
  refine A_blk hM.1 3 (lv1 := [some (aR 3), some (aI v1), some (aL x.1), none, some (aI x.2), none]) (s1 := [aI (h 3 11), aI x.2]) (h1 := h) rfl ?_
  refine A_icmp hM.1 rfl rfl (fun hc => ?_) (fun hc => ?_)
  · replace hh := OK_t hh hc
    refine A_mask [false, false, true, true, false, true] (lv1 := [none, none, some (aL x.1), none, none, none]) rfl ?_
    exact hout0 x.1 hh
  · replace hh := OK_f hh hc
    refine A_blk hM.1 2 (lv1 := [some (aR 3), some (aI v1), some (aL x.1), none, some (aI x.2), none]) (s1 := [aI x.2, aR 3]) (h1 := h) rfl ?_
    refine A_callV hM rfl rfl (mem_GW 1393 (by decide +kernel) rfl) mi_X7_bitBook (As := [aI x.2]) (rest := []) (ct_X7_bitBook x.2 h (OK_bind hh)) (by decide) ⟨Nat.zero_le _, Nat.zero_le _⟩ rfl rfl (Nat.le_of_ble_eq_true rfl) (by decide) rfl (by decide) rfl (fun r F' h' hq1 => ?_)
    obtain ⟨rfl, r1, rfl, e9, hh⟩ := hq1
    subst h'
    refine A_blk hM.1 3 (lv1 := [some (aR 3), some (aI v1), some (aL x.1), none, some (aI x.2), some (aI r1)]) (s1 := [aI x.2, aR 3]) (h1 := h) rfl ?_
    refine A_callV hM rfl rfl (mem_GW 1286 (by decide +kernel) rfl) mi_X7_bitWork (As := [aI x.2]) (rest := []) (ct_X7_bitWork x.2 h (OK_bind hh)) (by decide) ⟨Nat.zero_le _, Nat.zero_le _⟩ rfl rfl (Nat.le_of_ble_eq_true rfl) (by decide) rfl (by decide) rfl (fun r F' h' hq1 => ?_)
    obtain ⟨rfl, r2, rfl, e9, hh⟩ := hq1
    subst h'
    refine A_blk hM.1 1 (lv1 := [some (aR 3), some (aI v1), some (aL x.1), none, some (aI x.2), some (aI r1)]) (s1 := [aI v1, aI r2]) (h1 := h) rfl ?_
    refine A_icmp hM.1 rfl rfl (fun hc => ?_) (fun hc => ?_)
    · replace hh := OK_t hh hc
      refine A_mask [true, true, true, true, true, false] (lv1 := [some (aR 3), some (aI v1), some (aL x.1), none, some (aI x.2), none]) rfl ?_
      exact c_X7_toldBooks_j27 hM v1 x.1 x.2 h hin hout0 hh
    · replace hh := OK_f hh hc
      refine A_blk hM.1 1 (lv1 := [some (aR 3), some (aI v1), some (aL x.1), none, some (aI x.2), some (aI r1)]) (s1 := [aI r1]) (h1 := h) rfl ?_
      refine A_ifc hM.1 rfl rfl (fun hc => ?_) (fun hc => ?_)
      · replace hh := OK_t hh hc
        refine A_mask [true, true, true, true, true, false] (lv1 := [some (aR 3), some (aI v1), some (aL x.1), none, some (aI x.2), none]) rfl ?_
        exact c_X7_toldBooks_j27 hM v1 x.1 x.2 h hin hout0 hh
      · replace hh := OK_f hh hc
        refine A_blk hM.1 8 (lv1 := [some (aR 3), some (aI v1), some (aL (or64 x.1 (shl64 1 (r1 - 1)))), none, some (aI x.2), some (aI r1)]) (s1 := []) (h1 := h) rfl ?_
        refine A_mask [true, true, true, true, true, false] (lv1 := [some (aR 3), some (aI v1), some (aL (or64 x.1 (shl64 1 (r1 - 1)))), none, some (aI x.2), none]) rfl ?_
        exact c_X7_toldBooks_j27 hM v1 (or64 x.1 (shl64 1 (r1 - 1))) x.2 h hin hout0 hh

set_option maxRecDepth 20000 in
set_option maxHeartbeats 4000000 in
theorem c_X7_toldBooks {k0 : K0} {G : Gx} {Qp : Option AV → Fx → Hp → Prop} (hM : MB (KM k0 0 0 Qp) G M_X7_toldBooks 3) (v1 : Int) (h : Hp)   {P : Int → Prop} (hq : ∀ z : Int, P z → Qp (some (aL z)) FN h) (hh : OK (X7_toldBooks v1 h) P) : ATk (KM k0 0 0 Qp) FN 0 0 M_X7_toldBooks 0 [some (aR 3), some (aI v1), none, none, none, none] [] h := by
  unfold X7_toldBooks at hh
  refine A_blk hM.1 4 (lv1 := [some (aR 3), some (aI v1), some (aL 0), none, some (aI 0), none]) (s1 := []) (h1 := h) rfl ?_
  refine iter_ok (s := (0, 0)) (Gp := fun z => ATk (KM k0 0 0 Qp) FN 0 0 M_X7_toldBooks 4 [some (aR 3), some (aI v1), some (aL z.1), none, some (aI z.2), none] [] h) (E := fun z => ATk (KM k0 0 0 Qp) FN 0 0 M_X7_toldBooks 29 [none, none, some (aL z), none, none, none] [] h) (fun z P1 g1 g2 g3 => c_X7_toldBooks_l4 hM v1 h z g2 g3 g1) (OK_bind hh) (fun x3 hh => ?_)
  refine A_blk hM.1 1 (lv1 := [none, none, some (aL x3), none, none, none]) (s1 := [aL x3]) (h1 := h) rfl ?_
  exact A_retl hM.1 rfl rfl rfl (hq x3 hh)

set_option maxRecDepth 20000 in
set_option maxHeartbeats 4000000 in
theorem ct_X7_toldBooks {G : Gx} (v1 : Int) (h : Hp)   {P : Int → Prop} (hh : OK (X7_toldBooks v1 h) P) : CT G yX7_toldBooks M_X7_toldBooks 3 0 0 FN h [aR 3, aI v1] (fun r F' h' => F' = FN ∧ ∃ z, r = some (aL z) ∧ h' = h ∧ P z) :=
  CT.of (by decide +kernel) rfl (Nat.le_of_ble_eq_true rfl) k_X7_toldBooks fun k0 _ _ hM => c_X7_toldBooks hM v1 h (fun z hz => ⟨rfl, z, rfl, rfl, hz⟩) hh

theorem mi_J6_numberOfLeadingZeros : MIs yJ6_numberOfLeadingZeros_0f7a4 M_J6_numberOfLeadingZeros 1 := ⟨(mem_GW 1405 (by decide +kernel) rfl), (mem_GW 144 (by decide +kernel) rfl), by decide +kernel, by decide +kernel, by decide +kernel, by decide⟩
theorem ms_J6_numberOfLeadingZeros : .static yJ6_numberOfLeadingZeros_0f7a4 ∈ GW := (mem_GW 1404 (by decide +kernel) rfl)
set_option maxRecDepth 20000 in
set_option maxHeartbeats 4000000 in
theorem c_J6_numberOfLeadingZeros_j42 {k0 : K0} {G : Gx} {Qp : Option AV → Fx → Hp → Prop} (hM : MB (KM k0 0 0 Qp) G M_J6_numberOfLeadingZeros 1) (v0 : Int) (v1 : Int) (h : Hp)  {P : Int → Prop} (hq : ∀ z : Int, P z → Qp (some (aI z)) FN h) (hh : OK (J6_numberOfLeadingZeros_j42 v0 v1) P) : ATk (KM k0 0 0 Qp) FN 0 0 M_J6_numberOfLeadingZeros 42 [some (aI v0), some (aI v1)] [] h := by
  unfold J6_numberOfLeadingZeros_j42 at hh
  refine A_blk hM.1 5 (lv1 := [some (aI v0), some (aI v1)]) (s1 := [aI (v1 - (ushr32 v0 1))]) (h1 := h) rfl ?_
  exact A_reti hM.1 rfl rfl rfl (hq (v1 - (ushr32 v0 1)) hh)

set_option maxRecDepth 20000 in
set_option maxHeartbeats 4000000 in
theorem c_J6_numberOfLeadingZeros_j34 {k0 : K0} {G : Gx} {Qp : Option AV → Fx → Hp → Prop} (hM : MB (KM k0 0 0 Qp) G M_J6_numberOfLeadingZeros 1) (v0 : Int) (v1 : Int) (h : Hp)  {P : Int → Prop} (hq : ∀ z : Int, P z → Qp (some (aI z)) FN h) (hh : OK (J6_numberOfLeadingZeros_j34 v0 v1) P) : ATk (KM k0 0 0 Qp) FN 0 0 M_J6_numberOfLeadingZeros 34 [some (aI v0), some (aI v1)] [] h := by
  unfold J6_numberOfLeadingZeros_j34 at hh
  refine A_blk hM.1 2 (lv1 := [some (aI v0), some (aI v1)]) (s1 := [aI 4, aI v0]) (h1 := h) rfl ?_
  refine A_icmp hM.1 rfl rfl (fun hc => ?_) (fun hc => ?_)
  · replace hh := OK_t hh hc
    exact c_J6_numberOfLeadingZeros_j42 hM v0 v1 h hq hh
  · replace hh := OK_f hh hc
    refine A_blk hM.1 5 (lv1 := [some (aI (ushr32 v0 2)), some (aI (v1 + (-2)))]) (s1 := []) (h1 := h) rfl ?_
    exact c_J6_numberOfLeadingZeros_j42 hM (ushr32 v0 2) (v1 + (-2)) h hq hh

set_option maxRecDepth 20000 in
set_option maxHeartbeats 4000000 in
theorem c_J6_numberOfLeadingZeros_j26 {k0 : K0} {G : Gx} {Qp : Option AV → Fx → Hp → Prop} (hM : MB (KM k0 0 0 Qp) G M_J6_numberOfLeadingZeros 1) (v0 : Int) (v1 : Int) (h : Hp)  {P : Int → Prop} (hq : ∀ z : Int, P z → Qp (some (aI z)) FN h) (hh : OK (J6_numberOfLeadingZeros_j26 v0 v1) P) : ATk (KM k0 0 0 Qp) FN 0 0 M_J6_numberOfLeadingZeros 26 [some (aI v0), some (aI v1)] [] h := by
  unfold J6_numberOfLeadingZeros_j26 at hh
  refine A_blk hM.1 2 (lv1 := [some (aI v0), some (aI v1)]) (s1 := [aI 16, aI v0]) (h1 := h) rfl ?_
  refine A_icmp hM.1 rfl rfl (fun hc => ?_) (fun hc => ?_)
  · replace hh := OK_t hh hc
    exact c_J6_numberOfLeadingZeros_j34 hM v0 v1 h hq hh
  · replace hh := OK_f hh hc
    refine A_blk hM.1 5 (lv1 := [some (aI (ushr32 v0 4)), some (aI (v1 + (-4)))]) (s1 := []) (h1 := h) rfl ?_
    exact c_J6_numberOfLeadingZeros_j34 hM (ushr32 v0 4) (v1 + (-4)) h hq hh

set_option maxRecDepth 20000 in
set_option maxHeartbeats 4000000 in
theorem c_J6_numberOfLeadingZeros_j18 {k0 : K0} {G : Gx} {Qp : Option AV → Fx → Hp → Prop} (hM : MB (KM k0 0 0 Qp) G M_J6_numberOfLeadingZeros 1) (v0 : Int) (v1 : Int) (h : Hp)  {P : Int → Prop} (hq : ∀ z : Int, P z → Qp (some (aI z)) FN h) (hh : OK (J6_numberOfLeadingZeros_j18 v0 v1) P) : ATk (KM k0 0 0 Qp) FN 0 0 M_J6_numberOfLeadingZeros 18 [some (aI v0), some (aI v1)] [] h := by
  unfold J6_numberOfLeadingZeros_j18 at hh
  refine A_blk hM.1 2 (lv1 := [some (aI v0), some (aI v1)]) (s1 := [aI 256, aI v0]) (h1 := h) rfl ?_
  refine A_icmp hM.1 rfl rfl (fun hc => ?_) (fun hc => ?_)
  · replace hh := OK_t hh hc
    exact c_J6_numberOfLeadingZeros_j26 hM v0 v1 h hq hh
  · replace hh := OK_f hh hc
    refine A_blk hM.1 5 (lv1 := [some (aI (ushr32 v0 8)), some (aI (v1 + (-8)))]) (s1 := []) (h1 := h) rfl ?_
    exact c_J6_numberOfLeadingZeros_j26 hM (ushr32 v0 8) (v1 + (-8)) h hq hh

set_option maxRecDepth 20000 in
set_option maxHeartbeats 4000000 in
theorem c_J6_numberOfLeadingZeros {k0 : K0} {G : Gx} {Qp : Option AV → Fx → Hp → Prop} (hM : MB (KM k0 0 0 Qp) G M_J6_numberOfLeadingZeros 1) (v0 : Int) (h : Hp)  {P : Int → Prop} (hq : ∀ z : Int, P z → Qp (some (aI z)) FN h) (hh : OK (J6_numberOfLeadingZeros v0) P) : ATk (KM k0 0 0 Qp) FN 0 0 M_J6_numberOfLeadingZeros 0 [some (aI v0), none] [] h := by
  unfold J6_numberOfLeadingZeros at hh
  refine A_blk hM.1 1 (lv1 := [some (aI v0), none]) (s1 := [aI v0]) (h1 := h) rfl ?_
  refine A_ifc hM.1 rfl rfl (fun hc => ?_) (fun hc => ?_)
  · replace hh := OK_t hh hc
    refine A_blk hM.1 4 (lv1 := [some (aI v0), some (aI 31)]) (s1 := [aI 65536, aI v0]) (h1 := h) rfl ?_
    refine A_icmp hM.1 rfl rfl (fun hc => ?_) (fun hc => ?_)
    · replace hh := OK_t hh hc
      exact c_J6_numberOfLeadingZeros_j18 hM v0 31 h hq hh
    · replace hh := OK_f hh hc
      refine A_blk hM.1 5 (lv1 := [some (aI (ushr32 v0 16)), some (aI (31 + (-16)))]) (s1 := []) (h1 := h) rfl ?_
      exact c_J6_numberOfLeadingZeros_j18 hM (ushr32 v0 16) (31 + (-16)) h hq hh
  · replace hh := OK_f hh hc
    refine A_blk hM.1 1 (lv1 := [some (aI v0), none]) (s1 := [aI v0]) (h1 := h) rfl ?_
    refine A_ifc hM.1 rfl rfl (fun hc => ?_) (fun hc => ?_)
    · replace hh := OK_t hh hc
      refine A_blk hM.1 1 (lv1 := [some (aI v0), none]) (s1 := [aI 0]) (h1 := h) rfl ?_
      exact A_reti hM.1 rfl rfl rfl (hq 0 hh)
    · replace hh := OK_f hh hc
      refine A_blk hM.1 1 (lv1 := [some (aI v0), none]) (s1 := [aI 32]) (h1 := h) rfl ?_
      refine A_go hM.1 rfl rfl ?_
      exact A_reti hM.1 rfl rfl rfl (hq 32 hh)

set_option maxRecDepth 20000 in
set_option maxHeartbeats 4000000 in
theorem ct_J6_numberOfLeadingZeros {G : Gx} (v0 : Int) (h : Hp)  {P : Int → Prop} (hh : OK (J6_numberOfLeadingZeros v0) P) : CT G yJ6_numberOfLeadingZeros_0f7a4 M_J6_numberOfLeadingZeros 1 0 0 FN h [aI v0] (fun r F' h' => F' = FN ∧ ∃ z, r = some (aI z) ∧ h' = h ∧ P z) :=
  CT.of (by decide +kernel) rfl (Nat.le_of_ble_eq_true rfl) k_J6_numberOfLeadingZeros fun k0 _ _ hM => c_J6_numberOfLeadingZeros hM v0 h (fun z hz => ⟨rfl, z, rfl, rfl, hz⟩) hh

theorem mi_J13_numberOfLeadingZeros : MIs yJ13_numberOfLeadingZeros_95d88 M_J13_numberOfLeadingZeros 1 := ⟨(mem_GW 1402 (by decide +kernel) rfl), (mem_GW 143 (by decide +kernel) rfl), by decide +kernel, by decide +kernel, by decide +kernel, by decide⟩
theorem ms_J13_numberOfLeadingZeros : .static yJ13_numberOfLeadingZeros_95d88 ∈ GW := (mem_GW 1401 (by decide +kernel) rfl)
set_option maxRecDepth 20000 in
set_option maxHeartbeats 4000000 in
theorem c_J13_numberOfLeadingZeros {k0 : K0} {G : Gx} {Qp : Option AV → Fx → Hp → Prop} (hM : MB (KM k0 0 0 Qp) G M_J13_numberOfLeadingZeros 2) (v0 : Int) (h : Hp)  {P : Int → Prop} (hq : ∀ z : Int, P z → Qp (some (aI z)) FN h) (hh : OK (J13_numberOfLeadingZeros v0) P) : ATk (KM k0 0 0 Qp) FN 0 0 M_J13_numberOfLeadingZeros 0 [some (aL v0), none, none] [] h := by
  unfold J13_numberOfLeadingZeros at hh
  refine A_blk hM.1 6 (lv1 := [some (aL v0), none, some (aI (l2i (ushr64 v0 32)))]) (s1 := [aI (l2i (ushr64 v0 32))]) (h1 := h) rfl ?_
  refine A_ifc hM.1 rfl rfl (fun hc => ?_) (fun hc => ?_)
  · replace hh := OK_t hh hc
    refine A_blk hM.1 1 (lv1 := [some (aL v0), none, some (aI (l2i (ushr64 v0 32)))]) (s1 := [aI (l2i (ushr64 v0 32))]) (h1 := h) rfl ?_
    refine A_callS hM rfl rfl (mem_GW 1403 (by decide +kernel) rfl) mi_J6_numberOfLeadingZeros ms_J6_numberOfLeadingZeros (As := [aI (l2i (ushr64 v0 32))]) (rest := []) (ct_J6_numberOfLeadingZeros (l2i (ushr64 v0 32)) h (OK_bind hh)) (by decide) ⟨Nat.zero_le _, Nat.zero_le _⟩ rfl rfl (Nat.le_of_ble_eq_true rfl) (fun r F' h' hq1 => ?_)
    obtain ⟨rfl, r1, rfl, e9, hh⟩ := hq1
    subst h'
    exact A_reti hM.1 rfl rfl rfl (hq r1 hh)
  · replace hh := OK_f hh hc
    refine A_blk hM.1 3 (lv1 := [some (aL v0), none, some (aI (l2i (ushr64 v0 32)))]) (s1 := [aI (l2i v0), aI 32]) (h1 := h) rfl ?_
    refine A_callS hM rfl rfl (mem_GW 1403 (by decide +kernel) rfl) mi_J6_numberOfLeadingZeros ms_J6_numberOfLeadingZeros (As := [aI (l2i v0)]) (rest := [aI 32]) (ct_J6_numberOfLeadingZeros (l2i v0) h (OK_bind hh)) (by decide) ⟨Nat.zero_le _, Nat.zero_le _⟩ rfl rfl (Nat.le_of_ble_eq_true rfl) (fun r F' h' hq1 => ?_)
    obtain ⟨rfl, r2, rfl, e9, hh⟩ := hq1
    subst h'
    refine A_blk hM.1 1 (lv1 := [some (aL v0), none, some (aI (l2i (ushr64 v0 32)))]) (s1 := [aI (32 + r2)]) (h1 := h) rfl ?_
    refine A_go hM.1 rfl rfl ?_
    exact A_reti hM.1 rfl rfl rfl (hq (32 + r2) hh)

set_option maxRecDepth 20000 in
set_option maxHeartbeats 4000000 in
theorem ct_J13_numberOfLeadingZeros {G : Gx} (v0 : Int) (h : Hp)  {P : Int → Prop} (hh : OK (J13_numberOfLeadingZeros v0) P) : CT G yJ13_numberOfLeadingZeros_95d88 M_J13_numberOfLeadingZeros 2 0 0 FN h [aL v0] (fun r F' h' => F' = FN ∧ ∃ z, r = some (aI z) ∧ h' = h ∧ P z) :=
  CT.of (by decide +kernel) rfl (Nat.le_of_ble_eq_true rfl) k_J13_numberOfLeadingZeros fun k0 _ _ hM => c_J13_numberOfLeadingZeros hM v0 h (fun z hz => ⟨rfl, z, rfl, rfl, hz⟩) hh

