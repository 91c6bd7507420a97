theorem mi_X11_order : MIv yX11_order M_X11_order 2 := ⟨⟨(mem_GW 1297 (by decide +kernel) rfl), (mem_GW 123 (by decide +kernel) rfl), by decide +kernel, by decide +kernel, by decide +kernel, by decide⟩, (mem_GW 1295 (by decide +kernel) rfl), (mem_GW 1296 (by decide +kernel) rfl)⟩
set_option maxRecDepth 20000 in
set_option maxHeartbeats 4000000 in
theorem c_X11_order {k0 : K0} {G : Gx} {Qp : Option AV → Fx → Hp → Prop} (hM : MB (KM k0 0 0 Qp) G M_X11_order 8) (v1 : Int) (v2 : Int) (h : Hp)   {P : (Int × Hp) → Prop} (hq : ∀ z : Int × Hp, P z → Qp (some (aI z.1)) FN z.2) (hh : OK (X11_order v1 v2 h) P) : ATk (KM k0 0 0 Qp) FN 0 0 M_X11_order 0 [some (aR 0), some (aI v1), some (aI v2)] [] h := by
  unfold X11_order at hh
  refine A_blk hM.1 3 (lv1 := [some (aR 0), some (aI v1), some (aI v2)]) (s1 := [aI v1, aR 3]) (h1 := h) rfl ?_
  refine A_callV hM rfl rfl (mem_GW 632 (by decide +kernel) rfl) mi_X7_isWork (As := [aI v1]) (rest := []) (ct_X7_isWork v1 h (OK_bind hh)) (by decide) ⟨Nat.zero_le _, Nat.zero_le _⟩ rfl rfl (Nat.le_of_ble_eq_true rfl) (by decide) rfl (by decide) rfl (fun r F' h' hq1 => ?_)
  obtain ⟨rfl, r1, rfl, e9, hh⟩ := hq1
  subst h'
  refine A_ifc hM.1 rfl rfl (fun hc => ?_) (fun hc => ?_)
  · replace hh := OK_t hh hc
    refine A_blk hM.1 1 (lv1 := [some (aR 0), some (aI v1), some (aI v2)]) (s1 := [aI (-1000000)]) (h1 := h) rfl ?_
    exact A_reti hM.1 rfl rfl rfl (hq ((-1000000), h) hh)
  · replace hh := OK_f hh hc
    refine A_blk hM.1 2 (lv1 := [some (aR 0), some (aI v1), some (aI v2)]) (s1 := [aI (-1), aI v2]) (h1 := h) rfl ?_
    refine A_icmp hM.1 rfl rfl (fun hc => ?_) (fun hc => ?_)
    · replace hh := OK_t hh hc
      refine A_blk hM.1 1 (lv1 := [some (aR 0), some (aI v1), some (aI v2)]) (s1 := [aI (-1000000)]) (h1 := h) rfl ?_
      exact A_reti hM.1 rfl rfl rfl (hq ((-1000000), h) hh)
    · replace hh := OK_f hh hc
      refine A_blk hM.1 3 (lv1 := [some (aR 0), some (aI v1), some (aI v2)]) (s1 := [aI v1, aR 66]) (h1 := h) rfl ?_
      refine A_callV hM rfl rfl (mem_GW 1298 (by decide +kernel) rfl) mi_X5_solve (As := [aI v1]) (rest := []) (ct_X5_solve v1 h (OK_bind hh)) (by decide) ⟨Nat.zero_le _, Nat.zero_le _⟩ rfl rfl (Nat.le_of_ble_eq_true rfl) (by decide) rfl (by decide) rfl (fun r F' h' hq1 => ?_)
      obtain ⟨rfl, r2, rfl, e9, hh⟩ := hq1
      subst h'
      refine A_ifc hM.1 rfl rfl (fun hc => ?_) (fun hc => ?_)
      · replace hh := OK_t hh hc
        refine A_blk hM.1 2 (lv1 := [some (aR 0), some (aI v1), some (aI v2)]) (s1 := [aI (-1), aI v2]) (h1 := r2.2) rfl ?_
        refine A_icmp hM.1 rfl rfl (fun hc => ?_) (fun hc => ?_)
        · replace hh := OK_t hh hc
          refine A_blk hM.1 3 (lv1 := [some (aR 0), some (aI v1), some (aI v2)]) (s1 := [aR 66, aI v2]) (h1 := r2.2) rfl ?_
          refine A_callV hM rfl rfl (mem_GW 1345 (by decide +kernel) rfl) mi_X5_size (As := []) (rest := [aI v2]) (ct_X5_size r2.2 (OK_bind hh)) (by decide) ⟨Nat.zero_le _, Nat.zero_le _⟩ rfl rfl (Nat.le_of_ble_eq_true rfl) (by decide) rfl (by decide) rfl (fun r F' h' hq1 => ?_)
          obtain ⟨rfl, r3, rfl, e9, hh⟩ := hq1
          subst h'
          refine A_icmp hM.1 rfl rfl (fun hc => ?_) (fun hc => ?_)
          · replace hh := OK_t hh hc
            refine A_blk hM.1 1 (lv1 := [some (aR 0), some (aI v1), some (aI v2)]) (s1 := [aI (-1000000)]) (h1 := r2.2) rfl ?_
            exact A_reti hM.1 rfl rfl rfl (hq ((-1000000), r2.2) hh)
          · replace hh := OK_f hh hc
            refine A_blk hM.1 3 (lv1 := [some (aR 0), some (aI v1), some (aI v2)]) (s1 := [aI v2, aR 66]) (h1 := r2.2) rfl ?_
            refine A_callV hM rfl rfl (mem_GW 1349 (by decide +kernel) rfl) mi_X5_bitAt (As := [aI v2]) (rest := []) (ct_X5_bitAt v2 r2.2 (OK_bind hh)) (by decide) ⟨Nat.zero_le _, Nat.zero_le _⟩ rfl rfl (Nat.le_of_ble_eq_true rfl) (by decide) rfl (by decide) rfl (fun r F' h' hq1 => ?_)
            obtain ⟨rfl, r4, rfl, e9, hh⟩ := hq1
            subst h'
            refine A_go hM.1 rfl rfl ?_
            exact A_reti hM.1 rfl rfl rfl (hq (r4, r2.2) hh)
        · replace hh := OK_f hh hc
          refine A_blk hM.1 2 (lv1 := [some (aR 0), some (aI v1), some (aI v2)]) (s1 := [aR 66]) (h1 := r2.2) rfl ?_
          refine A_callV hM rfl rfl (mem_GW 1341 (by decide +kernel) rfl) mi_X5_points (As := []) (rest := []) (ct_X5_points r2.2 (OK_bind hh)) (by decide) ⟨Nat.zero_le _, Nat.zero_le _⟩ rfl rfl (Nat.le_of_ble_eq_true rfl) (by decide) rfl (by decide) rfl (fun r F' h' hq1 => ?_)
          obtain ⟨rfl, r5, rfl, e9, hh⟩ := hq1
          subst h'
          exact A_reti hM.1 rfl rfl rfl (hq (r5, r2.2) hh)
      · replace hh := OK_f hh hc
        refine A_blk hM.1 1 (lv1 := [some (aR 0), some (aI v1), some (aI v2)]) (s1 := [aI (-1000000)]) (h1 := r2.2) rfl ?_
        exact A_reti hM.1 rfl rfl rfl (hq ((-1000000), r2.2) hh)

set_option maxRecDepth 20000 in
set_option maxHeartbeats 4000000 in
theorem ct_X11_order {G : Gx} (v1 : Int) (v2 : Int) (h : Hp)   {P : (Int × Hp) → Prop} (hh : OK (X11_order v1 v2 h) P) : CT G yX11_order M_X11_order 8 0 0 FN h [aR 0, aI v1, aI v2] (fun r F' h' => F' = FN ∧ ∃ z, r = some (aI z.1) ∧ h' = z.2 ∧ P z) :=
  CT.of (by decide +kernel) rfl (Nat.le_of_ble_eq_true rfl) k_X11_order fun k0 _ _ hM => c_X11_order hM v1 v2 h (fun z hz => ⟨rfl, z, rfl, rfl, hz⟩) hh

theorem mi_X5_rows : MIv yX5_rows M_X5_rows 0 := ⟨⟨(mem_GW 1360 (by decide +kernel) rfl), (mem_GW 132 (by decide +kernel) rfl), by decide +kernel, by decide +kernel, by decide +kernel, by decide⟩, (mem_GW 1358 (by decide +kernel) rfl), (mem_GW 1359 (by decide +kernel) rfl)⟩
set_option maxRecDepth 20000 in
set_option maxHeartbeats 4000000 in
theorem c_X5_rows {k0 : K0} {G : Gx} {Qp : Option AV → Fx → Hp → Prop} (hM : MB (KM k0 0 0 Qp) G M_X5_rows 1) (h : Hp)   {P : Int → Prop} (hq : ∀ z : Int, P z → Qp (some (aI z)) FN h) (hh : OK (X5_rows h) P) : ATk (KM k0 0 0 Qp) FN 0 0 M_X5_rows 0 [some (aR 66)] [] h := by
  unfold X5_rows at hh
  refine A_blk hM.1 2 (lv1 := [some (aR 66)]) (s1 := [aI (h 66 15)]) (h1 := h) rfl ?_
  exact A_reti hM.1 rfl rfl rfl (hq (h 66 15) hh)

set_option maxRecDepth 20000 in
set_option maxHeartbeats 4000000 in
theorem ct_X5_rows {G : Gx} (h : Hp)   {P : Int → Prop} (hh : OK (X5_rows h) P) : CT G yX5_rows M_X5_rows 1 0 0 FN h [aR 66] (fun r F' h' => F' = FN ∧ ∃ z, r = some (aI z) ∧ h' = h ∧ P z) :=
  CT.of (by decide +kernel) rfl (Nat.le_of_ble_eq_true rfl) k_X5_rows fun k0 _ _ hM => c_X5_rows hM h (fun z hz => ⟨rfl, z, rfl, rfl, hz⟩) hh

theorem mi_X11_orders : MIv yX11_orders M_X11_orders 1 := ⟨⟨(mem_GW 1356 (by decide +kernel) rfl), (mem_GW 123 (by decide +kernel) rfl), by decide +kernel, by decide +kernel, by decide +kernel, by decide⟩, (mem_GW 1354 (by decide +kernel) rfl), (mem_GW 1355 (by decide +kernel) rfl)⟩
set_option maxRecDepth 20000 in
set_option maxHeartbeats 4000000 in
theorem c_X11_orders {k0 : K0} {G : Gx} {Qp : Option AV → Fx → Hp → Prop} (hM : MB (KM k0 0 0 Qp) G M_X11_orders 8) (v1 : Int) (h : Hp)   {P : (Int × Hp) → Prop} (hq : ∀ z : Int × Hp, P z → Qp (some (aL z.1)) FN z.2) (hh : OK (X11_orders v1 h) P) : ATk (KM k0 0 0 Qp) FN 0 0 M_X11_orders 0 [some (aR 0), some (aI v1)] [] h := by
  unfold X11_orders at hh
  refine A_blk hM.1 3 (lv1 := [some (aR 0), some (aI v1)]) (s1 := [aI v1, aR 3]) (h1 := h) rfl ?_
  refine A_callV hM rfl rfl (mem_GW 632 (by decide +kernel) rfl) mi_X7_isWork (As := [aI v1]) (rest := []) (ct_X7_isWork v1 h (OK_bind hh)) (by decide) ⟨Nat.zero_le _, Nat.zero_le _⟩ rfl rfl (Nat.le_of_ble_eq_true rfl) (by decide) rfl (by decide) rfl (fun r F' h' hq1 => ?_)
  obtain ⟨rfl, r1, rfl, e9, hh⟩ := hq1
  subst h'
  refine A_ifc hM.1 rfl rfl (fun hc => ?_) (fun hc => ?_)
  · replace hh := OK_t hh hc
    refine A_blk hM.1 3 (lv1 := [some (aR 0), some (aI v1)]) (s1 := [aI v1, aR 66]) (h1 := h) rfl ?_
    refine A_callV hM rfl rfl (mem_GW 1298 (by decide +kernel) rfl) mi_X5_solve (As := [aI v1]) (rest := []) (ct_X5_solve v1 h (OK_bind hh)) (by decide) ⟨Nat.zero_le _, Nat.zero_le _⟩ rfl rfl (Nat.le_of_ble_eq_true rfl) (by decide) rfl (by decide) rfl (fun r F' h' hq1 => ?_)
    obtain ⟨rfl, r2, rfl, e9, hh⟩ := hq1
    subst h'
    refine A_ifc hM.1 rfl rfl (fun hc => ?_) (fun hc => ?_)
    · replace hh := OK_t hh hc
      refine A_blk hM.1 1 (lv1 := [some (aR 0), some (aI v1)]) (s1 := [aL 0]) (h1 := r2.2) rfl ?_
      exact A_retl hM.1 rfl rfl rfl (hq (0, r2.2) hh)
    · replace hh := OK_f hh hc
      refine A_blk hM.1 2 (lv1 := [some (aR 0), some (aI v1)]) (s1 := [aR 66]) (h1 := r2.2) rfl ?_
      refine A_callV hM rfl rfl (mem_GW 1357 (by decide +kernel) rfl) mi_X5_rows (As := []) (rest := []) (ct_X5_rows r2.2 (OK_bind hh)) (by decide) ⟨Nat.zero_le _, Nat.zero_le _⟩ rfl rfl (Nat.le_of_ble_eq_true rfl) (by decide) rfl (by decide) rfl (fun r F' h' hq1 => ?_)
      obtain ⟨rfl, r3, rfl, e9, hh⟩ := hq1
      subst h'
      refine A_blk hM.1 1 (lv1 := [some (aR 0), some (aI v1)]) (s1 := [aL (w32 r3)]) (h1 := r2.2) rfl ?_
      refine A_go hM.1 rfl rfl ?_
      exact A_retl hM.1 rfl rfl rfl (hq (w32 r3, r2.2) hh)
  · replace hh := OK_f hh hc
    refine A_blk hM.1 1 (lv1 := [some (aR 0), some (aI v1)]) (s1 := [aL (-1)]) (h1 := h) rfl ?_
    exact A_retl hM.1 rfl rfl rfl (hq ((-1), h) hh)

set_option maxRecDepth 20000 in
set_option maxHeartbeats 4000000 in
theorem ct_X11_orders {G : Gx} (v1 : Int) (h : Hp)   {P : (Int × Hp) → Prop} (hh : OK (X11_orders v1 h) P) : CT G yX11_orders M_X11_orders 8 0 0 FN h [aR 0, aI v1] (fun r F' h' => F' = FN ∧ ∃ z, r = some (aL z.1) ∧ h' = z.2 ∧ P z) :=
  CT.of (by decide +kernel) rfl (Nat.le_of_ble_eq_true rfl) k_X11_orders fun k0 _ _ hM => c_X11_orders hM v1 h (fun z hz => ⟨rfl, z, rfl, rfl, hz⟩) hh

