set_option linter.all false
theorem mi_X12_laysOrder : MIv yX12_laysOrder M_X12_laysOrder 0 := ⟨⟨(mem_GW 2233 (by decide +kernel) rfl), (mem_GW 135 (by decide +kernel) rfl), by decide +kernel, by decide +kernel, by decide +kernel, by decide⟩, (mem_GW 2232 (by decide +kernel) rfl), (mem_GW 107 (by decide +kernel) rfl)⟩
set_option maxRecDepth 20000 in
set_option maxHeartbeats 4000000 in
theorem c_X12_laysOrder_j49 {k0 : K0} {G : Gx} {Qp : Option AV → Fx → Hp → Prop} (hM : MB (KM k0 0 0 Qp) G M_X12_laysOrder 4) (v1 : Int) (v2 : Int) (v3 : Int) (h : Hp)   {P : ((Int × Hp) ⊕ (Hp)) → Prop} (hin : ∀ y : Int × Hp, P (.inl y) → ATk (KM k0 0 0 Qp) FN 0 0 M_X12_laysOrder 13 [some (aR 150), some (aI v1), some (aI v2), some (aI y.1)] [] y.2) (hout0 : ∀ y : Hp, P (.inr y) → ATk (KM k0 0 0 Qp) FN 0 0 M_X12_laysOrder 51 [some (aR 150), some (aI v1), some (aI v2), none] [] y) (hh : OK (X12_laysOrder_j49 v1 v2 v3 h) P) : ATk (KM k0 0 0 Qp) FN 0 0 M_X12_laysOrder 49 [some (aR 150), some (aI v1), some (aI v2), some (aI v3)] [] h := by
  unfold X12_laysOrder_j49 at hh
  refine A_blk hM.1 1 (lv1 := [some (aR 150), some (aI v1), some (aI v2), some (aI (v3 + 1))]) (s1 := []) (h1 := h) rfl ?_
  refine A_go hM.1 rfl rfl ?_
  exact hin (v3 + 1, h) hh

set_option maxRecDepth 20000 in
set_option maxHeartbeats 4000000 in
theorem c_X12_laysOrder_l13 {k0 : K0} {G : Gx} {Qp : Option AV → Fx → Hp → Prop} (hM : MB (KM k0 0 0 Qp) G M_X12_laysOrder 4) (v1 : Int) (v2 : Int) (x : Int × Hp)   {P : ((Int × Hp) ⊕ (Hp)) → Prop} (hin : ∀ y : Int × Hp, P (.inl y) → ATk (KM k0 0 0 Qp) FN 0 0 M_X12_laysOrder 13 [some (aR 150), some (aI v1), some (aI v2), some (aI y.1)] [] y.2) (hout0 : ∀ y : Hp, P (.inr y) → ATk (KM k0 0 0 Qp) FN 0 0 M_X12_laysOrder 51 [some (aR 150), some (aI v1), some (aI v2), none] [] y) (hh : OK (X12_laysOrder_l13 v1 v2 x) P) : ATk (KM k0 0 0 Qp) FN 0 0 M_X12_laysOrder 13 [some (aR 150), some (aI v1), some (aI v2), some (aI x.1)] [] x.2 := by
  unfold X12_laysOrder_l13 at hh
  refine A_blk hM.1 3 (lv1 := [some (aR 150), some (aI v1), some (aI v2), some (aI x.1)]) (s1 := [aI (x.2 150 78), aI x.1]) (h1 := x.2) rfl ?_
  refine A_icmp hM.1 rfl rfl (fun hc => ?_) (fun hc => ?_)
  · replace hh := OK_t hh hc
    refine A_mask [true, true, true, false] (lv1 := [some (aR 150), some (aI v1), some (aI v2), none]) rfl ?_
    exact hout0 x.2 hh
  · replace hh := OK_f hh hc
    refine A_blk hM.1 3 (lv1 := [some (aR 150), some (aI v1), some (aI v2), some (aI x.1)]) (s1 := [aI x.1, aL (w32 v2)]) (h1 := x.2) rfl ?_
    refine A_callS hM rfl rfl (mem_GW 2195 (by decide +kernel) rfl) mi_X12_has ms_X12_has (As := [aL (w32 v2), aI x.1]) (rest := []) (ct_X12_has (w32 v2) x.1 x.2 (OK_bind hh)) (by decide) ⟨Nat.zero_le _, Nat.zero_le _⟩ rfl rfl (Nat.le_of_ble_eq_true rfl) (fun r F' h' hq1 => ?_)
    obtain ⟨rfl, r1, rfl, e9, hh⟩ := hq1
    subst h'
    refine A_ifc hM.1 rfl rfl (fun hc => ?_) (fun hc => ?_)
    · replace hh := OK_t hh hc
      refine A_blk hM.1 2 (lv1 := [some (aR 150), some (aI v1), some (aI v2), some (aI x.1)]) (s1 := [aI v1, aI v2]) (h1 := x.2) rfl ?_
      refine A_icmp hM.1 rfl rfl (fun hc => ?_) (fun hc => ?_)
      · replace hh := OK_t hh hc
        refine A_blk hM.1 3 (lv1 := [some (aR 150), some (aI v1), some (aI v2), some (aI x.1)]) (s1 := [aI x.1, aI v2, aR 150]) (h1 := x.2) rfl ?_
        refine A_callV hM rfl rfl (mem_GW 2234 (by decide +kernel) rfl) mi_X12_weighs (As := [aI v2, aI x.1]) (rest := []) (ct_X12_weighs v2 x.1 x.2 (OK_bind hh)) (by decide) ⟨Nat.zero_le _, Nat.zero_le _⟩ rfl rfl (Nat.le_of_ble_eq_true rfl) (by decide) rfl (by decide) rfl (fun r F' h' hq1 => ?_)
        obtain ⟨rfl, rfl, hh⟩ := hq1
        obtain ⟨r2, rfl⟩ : ∃ z, z = h' := ⟨_, rfl⟩
        exact c_X12_laysOrder_j49 hM v1 v2 x.1 r2 hin hout0 hh
      · replace hh := OK_f hh hc
        refine A_blk hM.1 8 (lv1 := [some (aR 150), some (aI v1), some (aI v2), some (aI x.1)]) (s1 := [aI 0, aI ((10 * v2) + x.1), aR 192]) (h1 := x.2) rfl ?_
        obtain ⟨g3, hh⟩ := OK_g hh
        refine A_ast hM.1 rfl (Or.inl ⟨rfl, rfl, rfl⟩) rfl rfl rfl g3 ?_
        refine A_blk hM.1 8 (lv1 := [some (aR 150), some (aI v1), some (aI v2), some (aI x.1)]) (s1 := [aL 1, aI ((10 * v2) + x.1), aR 193]) (h1 := setH x.2 192 ((w32 ((10 * v2) + x.1)).toNat) 0) rfl ?_
        obtain ⟨g4, hh⟩ := OK_g hh
        refine A_last hM.1 rfl rfl rfl rfl rfl g4 ?_
        refine A_go hM.1 rfl rfl ?_
        exact c_X12_laysOrder_j49 hM v1 v2 x.1 (setH (setH x.2 192 ((w32 ((10 * v2) + x.1)).toNat) 0) 193 ((w32 ((10 * v2) + x.1)).toNat) 1) hin hout0 hh
    · replace hh := OK_f hh hc
      refine A_go hM.1 rfl rfl ?_
      exact c_X12_laysOrder_j49 hM v1 v2 x.1 x.2 hin hout0 hh

set_option maxRecDepth 20000 in
set_option maxHeartbeats 4000000 in
theorem c_X12_laysOrder_l9 {k0 : K0} {G : Gx} {Qp : Option AV → Fx → Hp → Prop} (hM : MB (KM k0 0 0 Qp) G M_X12_laysOrder 4) (v1 : Int) (x : Int × Hp)   {P : ((Int × Hp) ⊕ (Hp)) → Prop} (hin : ∀ y : Int × Hp, P (.inl y) → ATk (KM k0 0 0 Qp) FN 0 0 M_X12_laysOrder 9 [some (aR 150), some (aI v1), some (aI y.1), none] [] y.2) (hout0 : ∀ y : Hp, P (.inr y) → ATk (KM k0 0 0 Qp) FN 0 0 M_X12_laysOrder 53 [some (aR 150), none, none, none] [] y) (hh : OK (X12_laysOrder_l9 v1 x) P) : ATk (KM k0 0 0 Qp) FN 0 0 M_X12_laysOrder 9 [some (aR 150), some (aI v1), some (aI x.1), none] [] x.2 := by
  unfold X12_laysOrder_l9 at hh
  refine A_blk hM.1 1 (lv1 := [some (aR 150), some (aI v1), some (aI x.1), none]) (s1 := [aI x.1]) (h1 := x.2) rfl ?_
  refine A_ifc hM.1 rfl rfl (fun hc => ?_) (fun hc => ?_)
  · replace hh := OK_t hh hc
    refine A_mask [true, false, false, true] (lv1 := [some (aR 150), none, none, none]) rfl ?_
    exact hout0 x.2 hh
  · replace hh := OK_f hh hc
    refine A_blk hM.1 2 (lv1 := [some (aR 150), some (aI v1), some (aI x.1), some (aI 0)]) (s1 := []) (h1 := x.2) rfl ?_
    refine iter_ok (s := (0, x.2)) (Gp := fun z => ATk (KM k0 0 0 Qp) FN 0 0 M_X12_laysOrder 13 [some (aR 150), some (aI v1), some (aI x.1), some (aI z.1)] [] z.2) (E := fun z => ATk (KM k0 0 0 Qp) FN 0 0 M_X12_laysOrder 51 [some (aR 150), some (aI v1), some (aI x.1), none] [] z) (fun z P1 g1 g2 g3 => c_X12_laysOrder_l13 hM v1 x.1 z g2 g3 g1) (OK_bind hh) (fun x5 hh => ?_)
    refine A_blk hM.1 1 (lv1 := [some (aR 150), some (aI v1), some (aI (x.1 + (-1))), none]) (s1 := []) (h1 := x5) rfl ?_
    refine A_go hM.1 rfl rfl ?_
    exact hin (x.1 + (-1), x5) hh

set_option maxRecDepth 20000 in
set_option maxHeartbeats 4000000 in
theorem c_X12_laysOrder {k0 : K0} {G : Gx} {Qp : Option AV → Fx → Hp → Prop} (hM : MB (KM k0 0 0 Qp) G M_X12_laysOrder 4) (h : Hp)   {P : (Int × Hp) → Prop} (hq : ∀ z : Int × Hp, P z → Qp (some (aI z.1)) FN z.2) (hh : OK (X12_laysOrder h) P) : ATk (KM k0 0 0 Qp) FN 0 0 M_X12_laysOrder 0 [some (aR 150), none, none, none] [] h := by
  unfold X12_laysOrder at hh
  refine A_blk hM.1 9 (lv1 := [some (aR 150), some (aI ((shl32 1 (h 150 78)) - 1)), some (aI ((shl32 1 (h 150 78)) - 1)), none]) (s1 := []) (h1 := h) rfl ?_
  refine iter_ok (s := ((shl32 1 (h 150 78)) - 1, h)) (Gp := fun z => ATk (KM k0 0 0 Qp) FN 0 0 M_X12_laysOrder 9 [some (aR 150), some (aI ((shl32 1 (h 150 78)) - 1)), some (aI z.1), none] [] z.2) (E := fun z => ATk (KM k0 0 0 Qp) FN 0 0 M_X12_laysOrder 53 [some (aR 150), none, none, none] [] z) (fun z P1 g1 g2 g3 => c_X12_laysOrder_l9 hM ((shl32 1 (h 150 78)) - 1) z g2 g3 g1) (OK_bind hh) (fun x6 hh => ?_)
  refine A_blk hM.1 3 (lv1 := [some (aR 150), none, none, none]) (s1 := [aI 0, aI 0, aR 150]) (h1 := x6) rfl ?_
  refine A_callV hM rfl rfl (mem_GW 2234 (by decide +kernel) rfl) mi_X12_weighs (As := [aI 0, aI 0]) (rest := []) (ct_X12_weighs 0 0 x6 (OK_bind hh)) (by decide) ⟨Nat.zero_le _, Nat.zero_le _⟩ rfl rfl (Nat.le_of_ble_eq_true rfl) (by decide) rfl (by decide) rfl (fun r F' h' hq1 => ?_)
  obtain ⟨rfl, rfl, hh⟩ := hq1
  obtain ⟨r7, rfl⟩ : ∃ z, z = h' := ⟨_, rfl⟩
  refine A_blk hM.1 4 (lv1 := [some (aR 150), none, none, none]) (s1 := [aI 0, aR 192, aR 150]) (h1 := r7) rfl ?_
  obtain ⟨g8, hh⟩ := OK_g hh
  refine A_ald hM.1 rfl (Or.inl ⟨rfl, rfl⟩) rfl (by decide) rfl g8 ?_
  refine A_blk hM.1 5 (lv1 := [some (aR 150), none, none, none]) (s1 := [aI 0, aR 193, aR 150]) (h1 := setH r7 150 84 (r7 192 ((w32 0).toNat))) rfl ?_
  obtain ⟨g9, hh⟩ := OK_g hh
  refine A_lald hM.1 rfl rfl rfl (by decide) rfl g9 ?_
  refine A_blk hM.1 5 (lv1 := [some (aR 150), none, none, none]) (s1 := [aI (cmp64 (r7 193 ((w32 0).toNat)) 0)]) (h1 := setH (setH r7 150 84 (r7 192 ((w32 0).toNat))) 150 85 (r7 193 ((w32 0).toNat))) rfl ?_
  refine A_ifc hM.1 rfl rfl (fun hc => ?_) (fun hc => ?_)
  · replace hh := OK_t hh hc
    refine A_blk hM.1 1 (lv1 := [some (aR 150), none, none, none]) (s1 := [aI 0]) (h1 := setH (setH r7 150 84 (r7 192 ((w32 0).toNat))) 150 85 (r7 193 ((w32 0).toNat))) rfl ?_
    exact A_retz hM.1 rfl rfl rfl (by decide) (hq (0, setH (setH r7 150 84 (r7 192 ((w32 0).toNat))) 150 85 (r7 193 ((w32 0).toNat))) hh)
  · replace hh := OK_f hh hc
    refine A_blk hM.1 1 (lv1 := [some (aR 150), none, none, none]) (s1 := [aI 1]) (h1 := setH (setH r7 150 84 (r7 192 ((w32 0).toNat))) 150 85 (r7 193 ((w32 0).toNat))) rfl ?_
    refine A_go hM.1 rfl rfl ?_
    exact A_retz hM.1 rfl rfl rfl (by decide) (hq (1, setH (setH r7 150 84 (r7 192 ((w32 0).toNat))) 150 85 (r7 193 ((w32 0).toNat))) hh)

set_option maxRecDepth 20000 in
set_option maxHeartbeats 4000000 in
theorem ct_X12_laysOrder {G : Gx} (h : Hp)   {P : (Int × Hp) → Prop} (hh : OK (X12_laysOrder h) P) : CT G yX12_laysOrder M_X12_laysOrder 4 0 0 FN h [aR 150] (fun r F' h' => F' = FN ∧ ∃ z, r = some (aI z.1) ∧ h' = z.2 ∧ P z) :=
  CT.of (by decide +kernel) rfl (Nat.le_of_ble_eq_true rfl) k_X12_laysOrder fun k0 _ _ hM => c_X12_laysOrder hM h (fun z hz => ⟨rfl, z, rfl, rfl, hz⟩) hh

theorem mi_X12_isOrdered : MIv yX12_isOrdered M_X12_isOrdered 1 := ⟨⟨(mem_GW 2221 (by decide +kernel) rfl), (mem_GW 135 (by decide +kernel) rfl), by decide +kernel, by decide +kernel, by decide +kernel, by decide⟩, (mem_GW 2220 (by decide +kernel) rfl), (mem_GW 104 (by decide +kernel) rfl)⟩
set_option maxRecDepth 20000 in
set_option maxHeartbeats 4000000 in
theorem c_X12_isOrdered {k0 : K0} {G : Gx} {Qp : Option AV → Fx → Hp → Prop} (hM : MB (KM k0 0 0 Qp) G M_X12_isOrdered 6) (v1 : Int) (h : Hp)   {P : (Int × Hp) → Prop} (hq : ∀ z : Int × Hp, P z → Qp (some (aI z.1)) FN z.2) (hh : OK (X12_isOrdered v1 h) P) : ATk (KM k0 0 0 Qp) FN 0 0 M_X12_isOrdered 0 [some (aR 150), some (aI v1)] [] h := by
  unfold X12_isOrdered at hh
  refine A_blk hM.1 3 (lv1 := [some (aR 150), some (aI v1)]) (s1 := [aI (-1), aI v1, aR 150]) (h1 := h) rfl ?_
  refine A_callV hM rfl rfl (mem_GW 2222 (by decide +kernel) rfl) mi_X12_gathers (As := [aI v1, aI (-1)]) (rest := []) (ct_X12_gathers v1 (-1) h (OK_bind hh)) (by decide) ⟨Nat.zero_le _, Nat.zero_le _⟩ rfl rfl (Nat.le_of_ble_eq_true rfl) (by decide) rfl (by decide) rfl (fun r F' h' hq1 => ?_)
  obtain ⟨rfl, r1, rfl, e9, hh⟩ := hq1
  subst h'
  refine A_ifc hM.1 rfl rfl (fun hc => ?_) (fun hc => ?_)
  · replace hh := OK_t hh hc
    refine A_blk hM.1 1 (lv1 := [some (aR 150), some (aI v1)]) (s1 := [aI 0]) (h1 := r1.2) rfl ?_
    exact A_retz hM.1 rfl rfl rfl (by decide) (hq (0, r1.2) hh)
  · replace hh := OK_f hh hc
    refine A_blk hM.1 2 (lv1 := [some (aR 150), some (aI v1)]) (s1 := [aI (r1.2 150 78)]) (h1 := r1.2) rfl ?_
    refine A_ifc hM.1 rfl rfl (fun hc => ?_) (fun hc => ?_)
    · replace hh := OK_t hh hc
      refine A_blk hM.1 1 (lv1 := [some (aR 150), some (aI v1)]) (s1 := [aI 0]) (h1 := r1.2) rfl ?_
      exact A_retz hM.1 rfl rfl rfl (by decide) (hq (0, r1.2) hh)
    · replace hh := OK_f hh hc
      refine A_blk hM.1 1 (lv1 := [some (aR 150), some (aI v1)]) (s1 := [aR 150]) (h1 := r1.2) rfl ?_
      refine A_callV hM rfl rfl (mem_GW 2230 (by decide +kernel) rfl) mi_X12_laysOrder (As := []) (rest := []) (ct_X12_laysOrder r1.2 (OK_bind hh)) (by decide) ⟨Nat.zero_le _, Nat.zero_le _⟩ rfl rfl (Nat.le_of_ble_eq_true rfl) (by decide) rfl (by decide) rfl (fun r F' h' hq1 => ?_)
      obtain ⟨rfl, r2, rfl, e9, hh⟩ := hq1
      subst h'
      refine A_ifc hM.1 rfl rfl (fun hc => ?_) (fun hc => ?_)
      · replace hh := OK_t hh hc
        refine A_blk hM.1 1 (lv1 := [some (aR 150), some (aI v1)]) (s1 := [aI 0]) (h1 := r2.2) rfl ?_
        exact A_retz hM.1 rfl rfl rfl (by decide) (hq (0, r2.2) hh)
      · replace hh := OK_f hh hc
        refine A_blk hM.1 1 (lv1 := [some (aR 150), some (aI v1)]) (s1 := [aI 1]) (h1 := r2.2) rfl ?_
        refine A_go hM.1 rfl rfl ?_
        exact A_retz hM.1 rfl rfl rfl (by decide) (hq (1, r2.2) hh)

set_option maxRecDepth 20000 in
set_option maxHeartbeats 4000000 in
theorem ct_X12_isOrdered {G : Gx} (v1 : Int) (h : Hp)   {P : (Int × Hp) → Prop} (hh : OK (X12_isOrdered v1 h) P) : CT G yX12_isOrdered M_X12_isOrdered 6 0 0 FN h [aR 150, aI v1] (fun r F' h' => F' = FN ∧ ∃ z, r = some (aI z.1) ∧ h' = z.2 ∧ P z) :=
  CT.of (by decide +kernel) rfl (Nat.le_of_ble_eq_true rfl) k_X12_isOrdered fun k0 _ _ hM => c_X12_isOrdered hM v1 h (fun z hz => ⟨rfl, z, rfl, rfl, hz⟩) hh

theorem mi_X12_isNext : MIv yX12_isNext M_X12_isNext 3 := ⟨⟨(mem_GW 2250 (by decide +kernel) rfl), (mem_GW 135 (by decide +kernel) rfl), by decide +kernel, by decide +kernel, by decide +kernel, by decide⟩, (mem_GW 2249 (by decide +kernel) rfl), (mem_GW 111 (by decide +kernel) rfl)⟩
set_option maxRecDepth 20000 in
set_option maxHeartbeats 4000000 in
theorem c_X12_isNext_j46 {k0 : K0} {G : Gx} {Qp : Option AV → Fx → Hp → Prop} (hM : MB (KM k0 0 0 Qp) G M_X12_isNext 3) (v1 : Int) (v2 : Int) (s0 : Int) (s1 : Int) (h : Hp)   {P : Int → Prop} (hq : ∀ z : Int, P z → Qp (some (aI z)) FN h) (hh : OK (X12_isNext_j46 v1 v2 s0 s1 h) P) : ATk (KM k0 0 0 Qp) FN 0 0 M_X12_isNext 46 [some (aR 150), some (aI v1), some (aI v2), none] [aI s1, aI s0] h := by
  unfold X12_isNext_j46 at hh
  refine A_blk hM.1 8 (lv1 := [some (aR 150), some (aI v1), some (aI v2), none]) (s1 := [aI ((10 * v1) + v2), aR 192, aI (s0 + s1)]) (h1 := h) rfl ?_
  obtain ⟨g5, hh⟩ := OK_g hh
  refine A_ald hM.1 rfl (Or.inl ⟨rfl, rfl⟩) rfl (by decide) rfl g5 ?_
  refine A_icmp hM.1 rfl rfl (fun hc => ?_) (fun hc => ?_)
  · replace hh := OK_t hh hc
    refine A_blk hM.1 1 (lv1 := [some (aR 150), some (aI v1), some (aI v2), none]) (s1 := [aI 0]) (h1 := h) rfl ?_
    exact A_retz hM.1 rfl rfl rfl (by decide) (hq 0 hh)
  · replace hh := OK_f hh hc
    refine A_blk hM.1 1 (lv1 := [some (aR 150), some (aI v1), some (aI v2), none]) (s1 := [aI 1]) (h1 := h) rfl ?_
    refine A_go hM.1 rfl rfl ?_
    exact A_retz hM.1 rfl rfl rfl (by decide) (hq 1 hh)

set_option maxRecDepth 20000 in
set_option maxHeartbeats 4000000 in
theorem c_X12_isNext {k0 : K0} {G : Gx} {Qp : Option AV → Fx → Hp → Prop} (hM : MB (KM k0 0 0 Qp) G M_X12_isNext 3) (v1 : Int) (v2 : Int) (v3 : Int) (h : Hp)   {P : Int → Prop} (hq : ∀ z : Int, P z → Qp (some (aI z)) FN h) (hh : OK (X12_isNext v1 v2 v3 h) P) : ATk (KM k0 0 0 Qp) FN 0 0 M_X12_isNext 0 [some (aR 150), some (aI v1), some (aI v2), some (aI v3)] [] h := by
  unfold X12_isNext at hh
  refine A_blk hM.1 3 (lv1 := [some (aR 150), some (aI v1), some (aI v2), some (aI v3)]) (s1 := [aI v3, aI v1, aR 150]) (h1 := h) rfl ?_
  refine A_callV hM rfl rfl (mem_GW 2238 (by decide +kernel) rfl) mi_X12_mayCome (As := [aI v1, aI v3]) (rest := []) (ct_X12_mayCome v1 v3 h (OK_bind hh)) (by decide) ⟨Nat.zero_le _, Nat.zero_le _⟩ rfl rfl (Nat.le_of_ble_eq_true rfl) (by decide) rfl (by decide) rfl (fun r F' h' hq1 => ?_)
  obtain ⟨rfl, r1, rfl, e9, hh⟩ := hq1
  subst h'
  refine A_ifc hM.1 rfl rfl (fun hc => ?_) (fun hc => ?_)
  · replace hh := OK_t hh hc
    refine A_blk hM.1 1 (lv1 := [some (aR 150), some (aI v1), some (aI v2), some (aI v3)]) (s1 := [aI 0]) (h1 := h) rfl ?_
    exact A_retz hM.1 rfl rfl rfl (by decide) (hq 0 hh)
  · replace hh := OK_f hh hc
    refine A_blk hM.1 11 (lv1 := [some (aR 150), some (aI v1), some (aI v2), some (aI v3)]) (s1 := [aI ((10 * (or32 v1 (shl32 1 v3))) + v3), aR 193]) (h1 := h) rfl ?_
    obtain ⟨g2, hh⟩ := OK_g hh
    refine A_lald hM.1 rfl rfl rfl (by decide) rfl g2 ?_
    refine A_blk hM.1 2 (lv1 := [some (aR 150), some (aI v1), some (aI v2), some (aI v3)]) (s1 := [aI (cmp64 (h 193 ((w32 ((10 * (or32 v1 (shl32 1 v3))) + v3)).toNat)) 0)]) (h1 := h) rfl ?_
    refine A_ifc hM.1 rfl rfl (fun hc => ?_) (fun hc => ?_)
    · replace hh := OK_t hh hc
      refine A_blk hM.1 11 (lv1 := [some (aR 150), some (aI v1), some (aI v2), some (aI v3)]) (s1 := [aI ((10 * (or32 v1 (shl32 1 v3))) + v3), aR 192]) (h1 := h) rfl ?_
      obtain ⟨g3, hh⟩ := OK_g hh
      refine A_ald hM.1 rfl (Or.inl ⟨rfl, rfl⟩) rfl (by decide) rfl g3 ?_
      refine A_blk hM.1 1 (lv1 := [some (aR 150), some (aI v1), some (aI v2), some (aI v3)]) (s1 := [aI v1, aI (h 192 ((w32 ((10 * (or32 v1 (shl32 1 v3))) + v3)).toNat))]) (h1 := h) rfl ?_
      refine A_ifc hM.1 rfl rfl (fun hc => ?_) (fun hc => ?_)
      · replace hh := OK_t hh hc
        refine A_blk hM.1 7 (lv1 := [some (aR 150), some (aI v1), some (aI v2), some (aI v3)]) (s1 := [aI ((10 * v2) + v3), aR 191, aI (h 192 ((w32 ((10 * (or32 v1 (shl32 1 v3))) + v3)).toNat))]) (h1 := h) rfl ?_
        obtain ⟨g4, hh⟩ := OK_g hh
        refine A_ald hM.1 rfl (Or.inl ⟨rfl, rfl⟩) rfl (by decide) rfl g4 ?_
        refine A_mask [true, true, true, false] (lv1 := [some (aR 150), some (aI v1), some (aI v2), none]) rfl ?_
        exact c_X12_isNext_j46 hM v1 v2 (h 192 ((w32 ((10 * (or32 v1 (shl32 1 v3))) + v3)).toNat)) (h 191 ((w32 ((10 * v2) + v3)).toNat)) h hq hh
      · replace hh := OK_f hh hc
        refine A_blk hM.1 1 (lv1 := [some (aR 150), some (aI v1), some (aI v2), some (aI v3)]) (s1 := [aI 0, aI (h 192 ((w32 ((10 * (or32 v1 (shl32 1 v3))) + v3)).toNat))]) (h1 := h) rfl ?_
        refine A_go hM.1 rfl rfl ?_
        refine A_mask [true, true, true, false] (lv1 := [some (aR 150), some (aI v1), some (aI v2), none]) rfl ?_
        exact c_X12_isNext_j46 hM v1 v2 (h 192 ((w32 ((10 * (or32 v1 (shl32 1 v3))) + v3)).toNat)) 0 h hq hh
    · replace hh := OK_f hh hc
      refine A_blk hM.1 1 (lv1 := [some (aR 150), some (aI v1), some (aI v2), some (aI v3)]) (s1 := [aI 0]) (h1 := h) rfl ?_
      exact A_retz hM.1 rfl rfl rfl (by decide) (hq 0 hh)

set_option maxRecDepth 20000 in
set_option maxHeartbeats 4000000 in
theorem ct_X12_isNext {G : Gx} (v1 : Int) (v2 : Int) (v3 : Int) (h : Hp)   {P : Int → Prop} (hh : OK (X12_isNext v1 v2 v3 h) P) : CT G yX12_isNext M_X12_isNext 3 0 0 FN h [aR 150, aI v1, aI v2, aI v3] (fun r F' h' => F' = FN ∧ ∃ z, r = some (aI z) ∧ h' = h ∧ P z) :=
  CT.of (by decide +kernel) rfl (Nat.le_of_ble_eq_true rfl) k_X12_isNext fun k0 _ _ hM => c_X12_isNext hM v1 v2 v3 h (fun z hz => ⟨rfl, z, rfl, rfl, hz⟩) hh

theorem mi_X12_atPlace : MIv yX12_atPlace M_X12_atPlace 1 := ⟨⟨(mem_GW 2246 (by decide +kernel) rfl), (mem_GW 135 (by decide +kernel) rfl), by decide +kernel, by decide +kernel, by decide +kernel, by decide⟩, (mem_GW 2245 (by decide +kernel) rfl), (mem_GW 110 (by decide +kernel) rfl)⟩
set_option maxRecDepth 20000 in
set_option maxHeartbeats 4000000 in
theorem c_X12_atPlace_l11 {k0 : K0} {G : Gx} {Qp : Option AV → Fx → Hp → Prop} (hM : MB (KM k0 0 0 Qp) G M_X12_atPlace 4) (v1 : Int) (v2 : Int) (v3 : Int) (v4 : Int) (h : Hp) (x : Int)   {P : ((Int) ⊕ (Int)) → Prop} (hin : ∀ y : Int, P (.inl y) → ATk (KM k0 0 0 Qp) FN 0 0 M_X12_atPlace 11 [some (aR 150), some (aI v1), some (aI v2), some (aI v3), some (aI v4), some (aI y)] [] h) (hout0 : ∀ y : Int, P (.inr y) → ATk (KM k0 0 0 Qp) FN 0 0 M_X12_atPlace 19 [some (aR 150), some (aI v1), some (aI v2), none, some (aI v4), some (aI y)] [] h) (hh : OK (X12_atPlace_l11 v1 v2 v3 v4 h x) P) : ATk (KM k0 0 0 Qp) FN 0 0 M_X12_atPlace 11 [some (aR 150), some (aI v1), some (aI v2), some (aI v3), some (aI v4), some (aI x)] [] h := by
  unfold X12_atPlace_l11 at hh
  refine A_blk hM.1 4 (lv1 := [some (aR 150), some (aI v1), some (aI v2), some (aI v3), some (aI v4), some (aI x)]) (s1 := [aI x, aI v3, aI v2, aR 150]) (h1 := h) rfl ?_
  refine A_callV hM rfl rfl (mem_GW 2247 (by decide +kernel) rfl) mi_X12_isNext (As := [aI v2, aI v3, aI x]) (rest := []) (ct_X12_isNext v2 v3 x h (OK_bind hh)) (by decide) ⟨Nat.zero_le _, Nat.zero_le _⟩ rfl rfl (Nat.le_of_ble_eq_true rfl) (by decide) rfl (by decide) rfl (fun r F' h' hq1 => ?_)
  obtain ⟨rfl, r1, rfl, e9, hh⟩ := hq1
  subst h'
  refine A_ifc hM.1 rfl rfl (fun hc => ?_) (fun hc => ?_)
  · replace hh := OK_t hh hc
    refine A_mask [true, true, true, false, true, true] (lv1 := [some (aR 150), some (aI v1), some (aI v2), none, some (aI v4), some (aI x)]) rfl ?_
    exact hout0 x hh
  · replace hh := OK_f hh hc
    refine A_blk hM.1 1 (lv1 := [some (aR 150), some (aI v1), some (aI v2), some (aI v3), some (aI v4), some (aI (x + 1))]) (s1 := []) (h1 := h) rfl ?_
    refine A_go hM.1 rfl rfl ?_
    exact hin (x + 1) hh

set_option maxRecDepth 20000 in
set_option maxHeartbeats 4000000 in
theorem c_X12_atPlace_l6 {k0 : K0} {G : Gx} {Qp : Option AV → Fx → Hp → Prop} (hM : MB (KM k0 0 0 Qp) G M_X12_atPlace 4) (v1 : Int) (h : Hp) (x : Int × Int × Int)   {P : ((Int × Int × Int) ⊕ (Int)) → Prop} (hin : ∀ y : Int × Int × Int, P (.inl y) → ATk (KM k0 0 0 Qp) FN 0 0 M_X12_atPlace 6 [some (aR 150), some (aI v1), some (aI y.1), some (aI y.2.1), some (aI y.2.2), none] [] h) (hout0 : ∀ y : Int, P (.inr y) → ATk (KM k0 0 0 Qp) FN 0 0 M_X12_atPlace 29 [some (aR 150), none, none, some (aI y), none, none] [] h) (hh : OK (X12_atPlace_l6 v1 h x) P) : ATk (KM k0 0 0 Qp) FN 0 0 M_X12_atPlace 6 [some (aR 150), some (aI v1), some (aI x.1), some (aI x.2.1), some (aI x.2.2), none] [] h := by
  unfold X12_atPlace_l6 at hh
  refine A_blk hM.1 2 (lv1 := [some (aR 150), some (aI v1), some (aI x.1), some (aI x.2.1), some (aI x.2.2), none]) (s1 := [aI v1, aI x.2.2]) (h1 := h) rfl ?_
  refine A_icmp hM.1 rfl rfl (fun hc => ?_) (fun hc => ?_)
  · replace hh := OK_t hh hc
    refine A_mask [true, false, false, true, false, true] (lv1 := [some (aR 150), none, none, some (aI x.2.1), none, none]) rfl ?_
    exact hout0 x.2.1 hh
  · replace hh := OK_f hh hc
    refine A_blk hM.1 2 (lv1 := [some (aR 150), some (aI v1), some (aI x.1), some (aI x.2.1), some (aI x.2.2), some (aI 0)]) (s1 := []) (h1 := h) rfl ?_
    refine iter_ok (s := 0) (Gp := fun z => ATk (KM k0 0 0 Qp) FN 0 0 M_X12_atPlace 11 [some (aR 150), some (aI v1), some (aI x.1), some (aI x.2.1), some (aI x.2.2), some (aI z)] [] h) (E := fun z => ATk (KM k0 0 0 Qp) FN 0 0 M_X12_atPlace 19 [some (aR 150), some (aI v1), some (aI x.1), none, some (aI x.2.2), some (aI z)] [] h) (fun z P1 g1 g2 g3 => c_X12_atPlace_l11 hM v1 x.1 x.2.1 x.2.2 h z g2 g3 g1) (OK_bind hh) (fun x2 hh => ?_)
    refine A_blk hM.1 9 (lv1 := [some (aR 150), some (aI v1), some (aI (or32 x.1 (shl32 1 x2))), some (aI x2), some (aI (x.2.2 + 1)), some (aI x2)]) (s1 := []) (h1 := h) rfl ?_
    refine A_go hM.1 rfl rfl ?_
    refine A_mask [true, true, true, true, true, false] (lv1 := [some (aR 150), some (aI v1), some (aI (or32 x.1 (shl32 1 x2))), some (aI x2), some (aI (x.2.2 + 1)), none]) rfl ?_
    exact hin (or32 x.1 (shl32 1 x2), x2, x.2.2 + 1) hh

set_option maxRecDepth 20000 in
set_option maxHeartbeats 4000000 in
theorem c_X12_atPlace {k0 : K0} {G : Gx} {Qp : Option AV → Fx → Hp → Prop} (hM : MB (KM k0 0 0 Qp) G M_X12_atPlace 4) (v1 : Int) (h : Hp)   {P : Int → Prop} (hq : ∀ z : Int, P z → Qp (some (aI z)) FN h) (hh : OK (X12_atPlace v1 h) P) : ATk (KM k0 0 0 Qp) FN 0 0 M_X12_atPlace 0 [some (aR 150), some (aI v1), none, none, none, none] [] h := by
  unfold X12_atPlace at hh
  refine A_blk hM.1 6 (lv1 := [some (aR 150), some (aI v1), some (aI 0), some (aI 0), some (aI 0), none]) (s1 := []) (h1 := h) rfl ?_
  refine iter_ok (s := (0, 0, 0)) (Gp := fun z => ATk (KM k0 0 0 Qp) FN 0 0 M_X12_atPlace 6 [some (aR 150), some (aI v1), some (aI z.1), some (aI z.2.1), some (aI z.2.2), none] [] h) (E := fun z => ATk (KM k0 0 0 Qp) FN 0 0 M_X12_atPlace 29 [some (aR 150), none, none, some (aI z), none, none] [] h) (fun z P1 g1 g2 g3 => c_X12_atPlace_l6 hM v1 h z g2 g3 g1) (OK_bind hh) (fun x3 hh => ?_)
  refine A_blk hM.1 3 (lv1 := [some (aR 150), none, none, some (aI x3), none, none]) (s1 := [aI x3, aR 189]) (h1 := h) rfl ?_
  obtain ⟨g4, hh⟩ := OK_g hh
  refine A_ald hM.1 rfl (Or.inl ⟨rfl, rfl⟩) rfl (by decide) rfl g4 ?_
  exact A_reti hM.1 rfl rfl rfl (hq (h 189 ((w32 x3).toNat)) hh)

set_option maxRecDepth 20000 in
set_option maxHeartbeats 4000000 in
theorem ct_X12_atPlace {G : Gx} (v1 : Int) (h : Hp)   {P : Int → Prop} (hh : OK (X12_atPlace v1 h) P) : CT G yX12_atPlace M_X12_atPlace 4 0 0 FN h [aR 150, aI v1] (fun r F' h' => F' = FN ∧ ∃ z, r = some (aI z) ∧ h' = h ∧ P z) :=
  CT.of (by decide +kernel) rfl (Nat.le_of_ble_eq_true rfl) k_X12_atPlace fun k0 _ _ hM => c_X12_atPlace hM v1 h (fun z hz => ⟨rfl, z, rfl, rfl, hz⟩) hh

theorem mi_X12_order : MIv yX12_order M_X12_order 2 := ⟨⟨(mem_GW 2217 (by decide +kernel) rfl), (mem_GW 135 (by decide +kernel) rfl), by decide +kernel, by decide +kernel, by decide +kernel, by decide⟩, (mem_GW 2215 (by decide +kernel) rfl), (mem_GW 2216 (by decide +kernel) rfl)⟩
set_option maxRecDepth 20000 in
set_option maxHeartbeats 4000000 in
theorem c_X12_order {k0 : K0} {G : Gx} {Qp : Option AV → Fx → Hp → Prop} (hM : MB (KM k0 0 0 Qp) G M_X12_order 7) (v1 : Int) (v2 : Int) (h : Hp)   {P : (Int × Hp) → Prop} (hq : ∀ z : Int × Hp, P z → Qp (some (aI z.1)) FN z.2) (hh : OK (X12_order v1 v2 h) P) : ATk (KM k0 0 0 Qp) FN 0 0 M_X12_order 0 [some (aR 150), some (aI v1), some (aI v2)] [] h := by
  unfold X12_order at hh
  refine A_blk hM.1 2 (lv1 := [some (aR 150), some (aI v1), some (aI v2)]) (s1 := [aI v1, aR 150]) (h1 := h) rfl ?_
  refine A_callV hM rfl rfl (mem_GW 1913 (by decide +kernel) rfl) mi_X12_isWork (As := [aI v1]) (rest := []) (ct_X12_isWork v1 h (OK_bind hh)) (by decide) ⟨Nat.zero_le _, Nat.zero_le _⟩ rfl rfl (Nat.le_of_ble_eq_true rfl) (by decide) rfl (by decide) rfl (fun r F' h' hq1 => ?_)
  obtain ⟨rfl, r1, rfl, e9, hh⟩ := hq1
  subst h'
  refine A_ifc hM.1 rfl rfl (fun hc => ?_) (fun hc => ?_)
  · replace hh := OK_t hh hc
    refine A_blk hM.1 1 (lv1 := [some (aR 150), some (aI v1), some (aI v2)]) (s1 := [aI (-1000000)]) (h1 := h) rfl ?_
    exact A_reti hM.1 rfl rfl rfl (hq ((-1000000), h) hh)
  · replace hh := OK_f hh hc
    refine A_blk hM.1 2 (lv1 := [some (aR 150), some (aI v1), some (aI v2)]) (s1 := [aI (-1), aI v2]) (h1 := h) rfl ?_
    refine A_icmp hM.1 rfl rfl (fun hc => ?_) (fun hc => ?_)
    · replace hh := OK_t hh hc
      refine A_blk hM.1 1 (lv1 := [some (aR 150), some (aI v1), some (aI v2)]) (s1 := [aI (-1000000)]) (h1 := h) rfl ?_
      exact A_reti hM.1 rfl rfl rfl (hq ((-1000000), h) hh)
    · replace hh := OK_f hh hc
      refine A_blk hM.1 2 (lv1 := [some (aR 150), some (aI v1), some (aI v2)]) (s1 := [aI v1, aR 150]) (h1 := h) rfl ?_
      refine A_callV hM rfl rfl (mem_GW 2218 (by decide +kernel) rfl) mi_X12_isOrdered (As := [aI v1]) (rest := []) (ct_X12_isOrdered v1 h (OK_bind hh)) (by decide) ⟨Nat.zero_le _, Nat.zero_le _⟩ rfl rfl (Nat.le_of_ble_eq_true rfl) (by decide) rfl (by decide) rfl (fun r F' h' hq1 => ?_)
      obtain ⟨rfl, r2, rfl, e9, hh⟩ := hq1
      subst h'
      refine A_ifc hM.1 rfl rfl (fun hc => ?_) (fun hc => ?_)
      · replace hh := OK_t hh hc
        refine A_blk hM.1 1 (lv1 := [some (aR 150), some (aI v1), some (aI v2)]) (s1 := [aI (-1000000)]) (h1 := r2.2) rfl ?_
        exact A_reti hM.1 rfl rfl rfl (hq ((-1000000), r2.2) hh)
      · replace hh := OK_f hh hc
        refine A_blk hM.1 3 (lv1 := [some (aR 150), some (aI v1), some (aI v2)]) (s1 := [aI (r2.2 150 78), aI v2]) (h1 := r2.2) rfl ?_
        refine A_icmp hM.1 rfl rfl (fun hc => ?_) (fun hc => ?_)
        · replace hh := OK_t hh hc
          refine A_blk hM.1 2 (lv1 := [some (aR 150), some (aI v1), some (aI v2)]) (s1 := [aI (-1), aI v2]) (h1 := r2.2) rfl ?_
          refine A_icmp hM.1 rfl rfl (fun hc => ?_) (fun hc => ?_)
          · replace hh := OK_t hh hc
            refine A_blk hM.1 2 (lv1 := [some (aR 150), some (aI v1), some (aI v2)]) (s1 := [aI v2, aR 150]) (h1 := r2.2) rfl ?_
            refine A_callV hM rfl rfl (mem_GW 2243 (by decide +kernel) rfl) mi_X12_atPlace (As := [aI v2]) (rest := []) (ct_X12_atPlace v2 r2.2 (OK_bind hh)) (by decide) ⟨Nat.zero_le _, Nat.zero_le _⟩ rfl rfl (Nat.le_of_ble_eq_true rfl) (by decide) rfl (by decide) rfl (fun r F' h' hq1 => ?_)
            obtain ⟨rfl, r3, rfl, e9, hh⟩ := hq1
            subst h'
            exact A_reti hM.1 rfl rfl rfl (hq (r3, r2.2) hh)
          · replace hh := OK_f hh hc
            refine A_blk hM.1 2 (lv1 := [some (aR 150), some (aI v1), some (aI v2)]) (s1 := [aI (r2.2 150 84)]) (h1 := r2.2) rfl ?_
            refine A_go hM.1 rfl rfl ?_
            exact A_reti hM.1 rfl rfl rfl (hq (r2.2 150 84, r2.2) hh)
        · replace hh := OK_f hh hc
          refine A_blk hM.1 1 (lv1 := [some (aR 150), some (aI v1), some (aI v2)]) (s1 := [aI (-1000000)]) (h1 := r2.2) rfl ?_
          exact A_reti hM.1 rfl rfl rfl (hq ((-1000000), r2.2) hh)

set_option maxRecDepth 20000 in
set_option maxHeartbeats 4000000 in
theorem ct_X12_order {G : Gx} (v1 : Int) (v2 : Int) (h : Hp)   {P : (Int × Hp) → Prop} (hh : OK (X12_order v1 v2 h) P) : CT G yX12_order M_X12_order 7 0 0 FN h [aR 150, aI v1, aI v2] (fun r F' h' => F' = FN ∧ ∃ z, r = some (aI z.1) ∧ h' = z.2 ∧ P z) :=
  CT.of (by decide +kernel) rfl (Nat.le_of_ble_eq_true rfl) k_X12_order fun k0 _ _ hM => c_X12_order hM v1 v2 h (fun z hz => ⟨rfl, z, rfl, rfl, hz⟩) hh

theorem mi_X12_orders : MIv yX12_orders M_X12_orders 1 := ⟨⟨(mem_GW 2254 (by decide +kernel) rfl), (mem_GW 135 (by decide +kernel) rfl), by decide +kernel, by decide +kernel, by decide +kernel, by decide⟩, (mem_GW 2252 (by decide +kernel) rfl), (mem_GW 2253 (by decide +kernel) rfl)⟩
set_option maxRecDepth 20000 in
set_option maxHeartbeats 4000000 in
theorem c_X12_orders {k0 : K0} {G : Gx} {Qp : Option AV → Fx → Hp → Prop} (hM : MB (KM k0 0 0 Qp) G M_X12_orders 7) (v1 : Int) (h : Hp)   {P : (Int × Hp) → Prop} (hq : ∀ z : Int × Hp, P z → Qp (some (aL z.1)) FN z.2) (hh : OK (X12_orders v1 h) P) : ATk (KM k0 0 0 Qp) FN 0 0 M_X12_orders 0 [some (aR 150), some (aI v1)] [] h := by
  unfold X12_orders at hh
  refine A_blk hM.1 2 (lv1 := [some (aR 150), some (aI v1)]) (s1 := [aI v1, aR 150]) (h1 := h) rfl ?_
  refine A_callV hM rfl rfl (mem_GW 1913 (by decide +kernel) rfl) mi_X12_isWork (As := [aI v1]) (rest := []) (ct_X12_isWork v1 h (OK_bind hh)) (by decide) ⟨Nat.zero_le _, Nat.zero_le _⟩ rfl rfl (Nat.le_of_ble_eq_true rfl) (by decide) rfl (by decide) rfl (fun r F' h' hq1 => ?_)
  obtain ⟨rfl, r1, rfl, e9, hh⟩ := hq1
  subst h'
  refine A_ifc hM.1 rfl rfl (fun hc => ?_) (fun hc => ?_)
  · replace hh := OK_t hh hc
    refine A_blk hM.1 2 (lv1 := [some (aR 150), some (aI v1)]) (s1 := [aI v1, aR 150]) (h1 := h) rfl ?_
    refine A_callV hM rfl rfl (mem_GW 2218 (by decide +kernel) rfl) mi_X12_isOrdered (As := [aI v1]) (rest := []) (ct_X12_isOrdered v1 h (OK_bind hh)) (by decide) ⟨Nat.zero_le _, Nat.zero_le _⟩ rfl rfl (Nat.le_of_ble_eq_true rfl) (by decide) rfl (by decide) rfl (fun r F' h' hq1 => ?_)
    obtain ⟨rfl, r2, rfl, e9, hh⟩ := hq1
    subst h'
    refine A_ifc hM.1 rfl rfl (fun hc => ?_) (fun hc => ?_)
    · replace hh := OK_t hh hc
      refine A_blk hM.1 1 (lv1 := [some (aR 150), some (aI v1)]) (s1 := [aL 0]) (h1 := r2.2) rfl ?_
      exact A_retl hM.1 rfl rfl rfl (hq (0, r2.2) hh)
    · replace hh := OK_f hh hc
      refine A_blk hM.1 2 (lv1 := [some (aR 150), some (aI v1)]) (s1 := [aL (r2.2 150 85)]) (h1 := r2.2) rfl ?_
      refine A_go hM.1 rfl rfl ?_
      exact A_retl hM.1 rfl rfl rfl (hq (r2.2 150 85, r2.2) hh)
  · replace hh := OK_f hh hc
    refine A_blk hM.1 1 (lv1 := [some (aR 150), some (aI v1)]) (s1 := [aL (-1)]) (h1 := h) rfl ?_
    exact A_retl hM.1 rfl rfl rfl (hq ((-1), h) hh)

set_option maxRecDepth 20000 in
set_option maxHeartbeats 4000000 in
theorem ct_X12_orders {G : Gx} (v1 : Int) (h : Hp)   {P : (Int × Hp) → Prop} (hh : OK (X12_orders v1 h) P) : CT G yX12_orders M_X12_orders 7 0 0 FN h [aR 150, aI v1] (fun r F' h' => F' = FN ∧ ∃ z, r = some (aL z.1) ∧ h' = z.2 ∧ P z) :=
  CT.of (by decide +kernel) rfl (Nat.le_of_ble_eq_true rfl) k_X12_orders fun k0 _ _ hM => c_X12_orders hM v1 h (fun z hz => ⟨rfl, z, rfl, rfl, hz⟩) hh

theorem mi_X12_orderOf : MIv yX12_orderOf M_X12_orderOf 1 := ⟨⟨(mem_GW 2262 (by decide +kernel) rfl), (mem_GW 135 (by decide +kernel) rfl), by decide +kernel, by decide +kernel, by decide +kernel, by decide⟩, (mem_GW 2261 (by decide +kernel) rfl), (mem_GW 112 (by decide +kernel) rfl)⟩
set_option maxRecDepth 20000 in
set_option maxHeartbeats 4000000 in
theorem c_X12_orderOf_l2 {k0 : K0} {G : Gx} {Qp : Option AV → Fx → Hp → Prop} (hM : MB (KM k0 0 0 Qp) G M_X12_orderOf 1) (v1 : Int) (h : Hp) (x : Int)   {P : ((Int) ⊕ (Int)) → Prop} (hin : ∀ y : Int, P (.inl y) → ATk (KM k0 0 0 Qp) FN 0 0 M_X12_orderOf 2 [some (aR 150), some (aI v1), some (aI y)] [] h) (hout0 : ∀ y : Int, P (.inr y) → ATk (KM k0 0 0 Qp) FN 0 0 M_X12_orderOf 10 [none, none, some (aI y)] [] h) (hh : OK (X12_orderOf_l2 v1 h x) P) : ATk (KM k0 0 0 Qp) FN 0 0 M_X12_orderOf 2 [some (aR 150), some (aI v1), some (aI x)] [] h := by
  unfold X12_orderOf_l2 at hh
  refine A_blk hM.1 3 (lv1 := [some (aR 150), some (aI v1), some (aI x)]) (s1 := [aI x, aR 189]) (h1 := h) rfl ?_
  obtain ⟨g1, hh⟩ := OK_g hh
  refine A_ald hM.1 rfl (Or.inl ⟨rfl, rfl⟩) rfl (by decide) rfl g1 ?_
  refine A_blk hM.1 1 (lv1 := [some (aR 150), some (aI v1), some (aI x)]) (s1 := [aI v1, aI (h 189 ((w32 x).toNat))]) (h1 := h) rfl ?_
  refine A_icmp hM.1 rfl rfl (fun hc => ?_) (fun hc => ?_)
  · replace hh := OK_t hh hc
    refine A_mask [false, false, true] (lv1 := [none, none, some (aI x)]) rfl ?_
    exact hout0 x hh
  · replace hh := OK_f hh hc
    refine A_blk hM.1 1 (lv1 := [some (aR 150), some (aI v1), some (aI (x + 1))]) (s1 := []) (h1 := h) rfl ?_
    refine A_go hM.1 rfl rfl ?_
    exact hin (x + 1) hh

set_option maxRecDepth 20000 in
set_option maxHeartbeats 4000000 in
theorem c_X12_orderOf {k0 : K0} {G : Gx} {Qp : Option AV → Fx → Hp → Prop} (hM : MB (KM k0 0 0 Qp) G M_X12_orderOf 1) (v1 : Int) (h : Hp)   {P : Int → Prop} (hq : ∀ z : Int, P z → Qp (some (aI z)) FN h) (hh : OK (X12_orderOf v1 h) P) : ATk (KM k0 0 0 Qp) FN 0 0 M_X12_orderOf 0 [some (aR 150), some (aI v1), none] [] h := by
  unfold X12_orderOf at hh
  refine A_blk hM.1 2 (lv1 := [some (aR 150), some (aI v1), some (aI 0)]) (s1 := []) (h1 := h) rfl ?_
  refine iter_ok (s := 0) (Gp := fun z => ATk (KM k0 0 0 Qp) FN 0 0 M_X12_orderOf 2 [some (aR 150), some (aI v1), some (aI z)] [] h) (E := fun z => ATk (KM k0 0 0 Qp) FN 0 0 M_X12_orderOf 10 [none, none, some (aI z)] [] h) (fun z P1 g1 g2 g3 => c_X12_orderOf_l2 hM v1 h z g2 g3 g1) (OK_bind hh) (fun x2 hh => ?_)
  refine A_blk hM.1 1 (lv1 := [none, none, some (aI x2)]) (s1 := [aI x2]) (h1 := h) rfl ?_
  exact A_reti hM.1 rfl rfl rfl (hq x2 hh)

set_option maxRecDepth 20000 in
set_option maxHeartbeats 4000000 in
theorem ct_X12_orderOf {G : Gx} (v1 : Int) (h : Hp)   {P : Int → Prop} (hh : OK (X12_orderOf v1 h) P) : CT G yX12_orderOf M_X12_orderOf 1 0 0 FN h [aR 150, aI v1] (fun r F' h' => F' = FN ∧ ∃ z, r = some (aI z) ∧ h' = h ∧ P z) :=
  CT.of (by decide +kernel) rfl (Nat.le_of_ble_eq_true rfl) k_X12_orderOf fun k0 _ _ hM => c_X12_orderOf hM v1 h (fun z hz => ⟨rfl, z, rfl, rfl, hz⟩) hh

theorem mi_X12_sure : MIv yX12_sure M_X12_sure 2 := ⟨⟨(mem_GW 2258 (by decide +kernel) rfl), (mem_GW 135 (by decide +kernel) rfl), by decide +kernel, by decide +kernel, by decide +kernel, by decide⟩, (mem_GW 2256 (by decide +kernel) rfl), (mem_GW 2257 (by decide +kernel) rfl)⟩
set_option maxRecDepth 20000 in
set_option maxHeartbeats 4000000 in
theorem c_X12_sure {k0 : K0} {G : Gx} {Qp : Option AV → Fx → Hp → Prop} (hM : MB (KM k0 0 0 Qp) G M_X12_sure 7) (v1 : Int) (v2 : Int) (h : Hp)   {P : (Int × Hp) → Prop} (hq : ∀ z : Int × Hp, P z → Qp (some (aI z.1)) FN z.2) (hh : OK (X12_sure v1 v2 h) P) : ATk (KM k0 0 0 Qp) FN 0 0 M_X12_sure 0 [some (aR 150), some (aI v1), some (aI v2), none, none, none] [] h := by
  unfold X12_sure at hh
  refine A_blk hM.1 2 (lv1 := [some (aR 150), some (aI v1), some (aI v2), none, none, none]) (s1 := [aI v1, aR 150]) (h1 := h) rfl ?_
  refine A_callV hM rfl rfl (mem_GW 2086 (by decide +kernel) rfl) mi_X12_isBit (As := [aI v1]) (rest := []) (ct_X12_isBit v1 h (OK_bind hh)) (by decide) ⟨Nat.zero_le _, Nat.zero_le _⟩ rfl rfl (Nat.le_of_ble_eq_true rfl) (by decide) rfl (by decide) rfl (fun r F' h' hq1 => ?_)
  obtain ⟨rfl, r1, rfl, e9, hh⟩ := hq1
  subst h'
  refine A_ifc hM.1 rfl rfl (fun hc => ?_) (fun hc => ?_)
  · replace hh := OK_t hh hc
    refine A_blk hM.1 1 (lv1 := [some (aR 150), some (aI v1), some (aI v2), none, none, none]) (s1 := [aI (-1)]) (h1 := h) rfl ?_
    exact A_reti hM.1 rfl rfl rfl (hq ((-1), h) hh)
  · replace hh := OK_f hh hc
    refine A_blk hM.1 2 (lv1 := [some (aR 150), some (aI v1), some (aI v2), none, none, none]) (s1 := [aI v2, aR 150]) (h1 := h) rfl ?_
    refine A_callV hM rfl rfl (mem_GW 2086 (by decide +kernel) rfl) mi_X12_isBit (As := [aI v2]) (rest := []) (ct_X12_isBit v2 h (OK_bind hh)) (by decide) ⟨Nat.zero_le _, Nat.zero_le _⟩ rfl rfl (Nat.le_of_ble_eq_true rfl) (by decide) rfl (by decide) rfl (fun r F' h' hq1 => ?_)
    obtain ⟨rfl, r2, rfl, e9, hh⟩ := hq1
    subst h'
    refine A_ifc hM.1 rfl rfl (fun hc => ?_) (fun hc => ?_)
    · replace hh := OK_t hh hc
      refine A_blk hM.1 1 (lv1 := [some (aR 150), some (aI v1), some (aI v2), none, none, none]) (s1 := [aI (-1)]) (h1 := h) rfl ?_
      exact A_reti hM.1 rfl rfl rfl (hq ((-1), h) hh)
    · replace hh := OK_f hh hc
      refine A_blk hM.1 2 (lv1 := [some (aR 150), some (aI v1), some (aI v2), none, none, none]) (s1 := [aI v2, aI v1]) (h1 := h) rfl ?_
      refine A_icmp hM.1 rfl rfl (fun hc => ?_) (fun hc => ?_)
      · replace hh := OK_t hh hc
        refine A_blk hM.1 1 (lv1 := [some (aR 150), some (aI v1), some (aI v2), none, none, none]) (s1 := [aI (-1)]) (h1 := h) rfl ?_
        exact A_reti hM.1 rfl rfl rfl (hq ((-1), h) hh)
      · replace hh := OK_f hh hc
        refine A_blk hM.1 3 (lv1 := [some (aR 150), some (aI v1), some (aI v2), none, none, none]) (s1 := [aI v1, aR 161]) (h1 := h) rfl ?_
        obtain ⟨g3, hh⟩ := OK_g hh
        refine A_ald hM.1 rfl (Or.inl ⟨rfl, rfl⟩) rfl (by decide) rfl g3 ?_
        refine A_blk hM.1 1 (lv1 := [some (aR 150), some (aI v1), some (aI v2), none, none, none]) (s1 := [aI (-1), aI (h 161 ((w32 v1).toNat))]) (h1 := h) rfl ?_
        refine A_icmp hM.1 rfl rfl (fun hc => ?_) (fun hc => ?_)
        · replace hh := OK_t hh hc
          refine A_blk hM.1 1 (lv1 := [some (aR 150), some (aI v1), some (aI v2), none, none, none]) (s1 := [aI (-1)]) (h1 := h) rfl ?_
          exact A_reti hM.1 rfl rfl rfl (hq ((-1), h) hh)
        · replace hh := OK_f hh hc
          refine A_blk hM.1 3 (lv1 := [some (aR 150), some (aI v1), some (aI v2), none, none, none]) (s1 := [aI v1, aR 161]) (h1 := h) rfl ?_
          obtain ⟨g4, hh⟩ := OK_g hh
          refine A_ald hM.1 rfl (Or.inl ⟨rfl, rfl⟩) rfl (by decide) rfl g4 ?_
          refine A_blk hM.1 3 (lv1 := [some (aR 150), some (aI v1), some (aI v2), none, none, none]) (s1 := [aI v2, aR 161, aI (h 161 ((w32 v1).toNat))]) (h1 := h) rfl ?_
          obtain ⟨g5, hh⟩ := OK_g hh
          refine A_ald hM.1 rfl (Or.inl ⟨rfl, rfl⟩) rfl (by decide) rfl g5 ?_
          refine A_icmp hM.1 rfl rfl (fun hc => ?_) (fun hc => ?_)
          · replace hh := OK_t hh hc
            refine A_blk hM.1 4 (lv1 := [some (aR 150), some (aI v1), some (aI v2), none, none, none]) (s1 := [aI v1, aR 161, aR 150]) (h1 := h) rfl ?_
            obtain ⟨g6, hh⟩ := OK_g hh
            refine A_ald hM.1 rfl (Or.inl ⟨rfl, rfl⟩) rfl (by decide) rfl g6 ?_
            refine A_callV hM rfl rfl (mem_GW 2218 (by decide +kernel) rfl) mi_X12_isOrdered (As := [aI (h 161 ((w32 v1).toNat))]) (rest := []) (ct_X12_isOrdered (h 161 ((w32 v1).toNat)) h (OK_bind hh)) (by decide) ⟨Nat.zero_le _, Nat.zero_le _⟩ rfl rfl (Nat.le_of_ble_eq_true rfl) (by decide) rfl (by decide) rfl (fun r F' h' hq1 => ?_)
            obtain ⟨rfl, r7, rfl, e9, hh⟩ := hq1
            subst h'
            refine A_ifc hM.1 rfl rfl (fun hc => ?_) (fun hc => ?_)
            · replace hh := OK_t hh hc
              refine A_blk hM.1 10 (lv1 := [some (aR 150), some (aI v1), some (aI v2), some (aI (r7.2 150 84)), some (aL (r7.2 150 85)), none]) (s1 := [aI v2, aR 150, aR 190]) (h1 := r7.2) rfl ?_
              refine A_callV hM rfl rfl (mem_GW 2259 (by decide +kernel) rfl) mi_X12_orderOf (As := [aI v2]) (rest := [aR 190]) (ct_X12_orderOf v2 r7.2 (OK_bind hh)) (by decide) ⟨Nat.zero_le _, Nat.zero_le _⟩ rfl rfl (Nat.le_of_ble_eq_true rfl) (by decide) rfl (by decide) rfl (fun r F' h' hq1 => ?_)
              obtain ⟨rfl, r8, rfl, e9, hh⟩ := hq1
              subst h'
              refine A_blk hM.1 1 (lv1 := [some (aR 150), some (aI v1), some (aI v2), some (aI (r7.2 150 84)), some (aL (r7.2 150 85)), none]) (s1 := [aI r8, aR 190, aI r8, aR 190]) (h1 := r7.2) rfl ?_
              obtain ⟨g9, hh⟩ := OK_g hh
              refine A_ald hM.1 rfl (Or.inl ⟨rfl, rfl⟩) rfl (by decide) rfl g9 ?_
              refine A_blk hM.1 3 (lv1 := [some (aR 150), some (aI v1), some (aI v2), some (aI (r7.2 150 84)), some (aL (r7.2 150 85)), none]) (s1 := [aI v1, aR 150, aI 1, aI (r7.2 190 ((w32 r8).toNat)), aI r8, aR 190]) (h1 := r7.2) rfl ?_
              refine A_callV hM rfl rfl (mem_GW 2259 (by decide +kernel) rfl) mi_X12_orderOf (As := [aI v1]) (rest := [aI 1, aI (r7.2 190 ((w32 r8).toNat)), aI r8, aR 190]) (ct_X12_orderOf v1 r7.2 (OK_bind hh)) (by decide) ⟨Nat.zero_le _, Nat.zero_le _⟩ rfl rfl (Nat.le_of_ble_eq_true rfl) (by decide) rfl (by decide) rfl (fun r F' h' hq1 => ?_)
              obtain ⟨rfl, r10, rfl, e9, hh⟩ := hq1
              subst h'
              refine A_blk hM.1 2 (lv1 := [some (aR 150), some (aI v1), some (aI v2), some (aI (r7.2 150 84)), some (aL (r7.2 150 85)), none]) (s1 := [aI (or32 (r7.2 190 ((w32 r8).toNat)) (shl32 1 r10)), aI r8, aR 190]) (h1 := r7.2) rfl ?_
              obtain ⟨g11, hh⟩ := OK_g hh
              refine A_ast hM.1 rfl (Or.inl ⟨rfl, rfl, rfl⟩) rfl rfl rfl g11 ?_
              refine A_blk hM.1 1 (lv1 := [some (aR 150), some (aI v1), some (aI v2), some (aI (r7.2 150 84)), some (aL (r7.2 150 85)), none]) (s1 := [aR 150]) (h1 := setH r7.2 190 ((w32 r8).toNat) (or32 (r7.2 190 ((w32 r8).toNat)) (shl32 1 r10))) rfl ?_
              refine A_callV hM rfl rfl (mem_GW 2230 (by decide +kernel) rfl) mi_X12_laysOrder (As := []) (rest := []) (ct_X12_laysOrder (setH r7.2 190 ((w32 r8).toNat) (or32 (r7.2 190 ((w32 r8).toNat)) (shl32 1 r10))) (OK_bind hh)) (by decide) ⟨Nat.zero_le _, Nat.zero_le _⟩ rfl rfl (Nat.le_of_ble_eq_true rfl) (by decide) rfl (by decide) rfl (fun r F' h' hq1 => ?_)
              obtain ⟨rfl, r12, rfl, e9, hh⟩ := hq1
              subst h'
              refine A_ifc hM.1 rfl rfl (fun hc => ?_) (fun hc => ?_)
              · replace hh := OK_t hh hc
                refine A_blk hM.1 1 (lv1 := [some (aR 150), some (aI v1), some (aI v2), some (aI (r7.2 150 84)), some (aL (r7.2 150 85)), none]) (s1 := [aI 0]) (h1 := r12.2) rfl ?_
                exact A_reti hM.1 rfl rfl rfl (hq (0, r12.2) hh)
              · replace hh := OK_f hh hc
                refine A_blk hM.1 3 (lv1 := [some (aR 150), some (aI v1), some (aI v2), some (aI (r7.2 150 84)), some (aL (r7.2 150 85)), none]) (s1 := [aI (r7.2 150 84), aI (r12.2 150 84)]) (h1 := r12.2) rfl ?_
                refine A_icmp hM.1 rfl rfl (fun hc => ?_) (fun hc => ?_)
                · replace hh := OK_t hh hc
                  refine A_blk hM.1 1 (lv1 := [some (aR 150), some (aI v1), some (aI v2), some (aI (r7.2 150 84)), some (aL (r7.2 150 85)), none]) (s1 := [aI 0]) (h1 := r12.2) rfl ?_
                  exact A_reti hM.1 rfl rfl rfl (hq (0, r12.2) hh)
                · replace hh := OK_f hh hc
                  refine A_blk hM.1 4 (lv1 := [some (aR 150), some (aI v1), some (aI v2), some (aI (r7.2 150 84)), some (aL (r7.2 150 85)), none]) (s1 := [aI (cmp64 (r12.2 150 85) (r7.2 150 85))]) (h1 := r12.2) rfl ?_
                  refine A_ifc hM.1 rfl rfl (fun hc => ?_) (fun hc => ?_)
                  · replace hh := OK_t hh hc
                    refine A_blk hM.1 1 (lv1 := [some (aR 150), some (aI v1), some (aI v2), some (aI (r7.2 150 84)), some (aL (r7.2 150 85)), none]) (s1 := [aI 0]) (h1 := r12.2) rfl ?_
                    exact A_reti hM.1 rfl rfl rfl (hq (0, r12.2) hh)
                  · replace hh := OK_f hh hc
                    refine A_blk hM.1 1 (lv1 := [some (aR 150), some (aI v1), some (aI v2), some (aI (r7.2 150 84)), some (aL (r7.2 150 85)), none]) (s1 := [aI 1]) (h1 := r12.2) rfl ?_
                    refine A_go hM.1 rfl rfl ?_
                    exact A_reti hM.1 rfl rfl rfl (hq (1, r12.2) hh)
            · replace hh := OK_f hh hc
              refine A_blk hM.1 1 (lv1 := [some (aR 150), some (aI v1), some (aI v2), none, none, none]) (s1 := [aI (-2)]) (h1 := r7.2) rfl ?_
              exact A_reti hM.1 rfl rfl rfl (hq ((-2), r7.2) hh)
          · replace hh := OK_f hh hc
            refine A_blk hM.1 1 (lv1 := [some (aR 150), some (aI v1), some (aI v2), none, none, none]) (s1 := [aI (-1)]) (h1 := h) rfl ?_
            exact A_reti hM.1 rfl rfl rfl (hq ((-1), h) hh)

set_option maxRecDepth 20000 in
set_option maxHeartbeats 4000000 in
theorem ct_X12_sure {G : Gx} (v1 : Int) (v2 : Int) (h : Hp)   {P : (Int × Hp) → Prop} (hh : OK (X12_sure v1 v2 h) P) : CT G yX12_sure M_X12_sure 7 0 0 FN h [aR 150, aI v1, aI v2] (fun r F' h' => F' = FN ∧ ∃ z, r = some (aI z.1) ∧ h' = z.2 ∧ P z) :=
  CT.of (by decide +kernel) rfl (Nat.le_of_ble_eq_true rfl) k_X12_sure fun k0 _ _ hM => c_X12_sure hM v1 v2 h (fun z hz => ⟨rfl, z, rfl, rfl, hz⟩) hh

theorem mi_X12_moves : MIv yX12_moves M_X12_moves 1 := ⟨⟨(mem_GW 2266 (by decide +kernel) rfl), (mem_GW 135 (by decide +kernel) rfl), by decide +kernel, by decide +kernel, by decide +kernel, by decide⟩, (mem_GW 2264 (by decide +kernel) rfl), (mem_GW 2265 (by decide +kernel) rfl)⟩
set_option maxRecDepth 20000 in
set_option maxHeartbeats 4000000 in
theorem c_X12_moves {k0 : K0} {G : Gx} {Qp : Option AV → Fx → Hp → Prop} (hM : MB (KM k0 0 0 Qp) G M_X12_moves 7) (v1 : Int) (h : Hp)   {P : (Int × Hp) → Prop} (hq : ∀ z : Int × Hp, P z → Qp (some (aI z.1)) FN z.2) (hh : OK (X12_moves v1 h) P) : ATk (KM k0 0 0 Qp) FN 0 0 M_X12_moves 0 [some (aR 150), some (aI v1), none] [] h := by
  unfold X12_moves at hh
  refine A_blk hM.1 2 (lv1 := [some (aR 150), some (aI v1), none]) (s1 := [aI v1, aR 150]) (h1 := h) rfl ?_
  refine A_callV hM rfl rfl (mem_GW 2086 (by decide +kernel) rfl) mi_X12_isBit (As := [aI v1]) (rest := []) (ct_X12_isBit v1 h (OK_bind hh)) (by decide) ⟨Nat.zero_le _, Nat.zero_le _⟩ rfl rfl (Nat.le_of_ble_eq_true rfl) (by decide) rfl (by decide) rfl (fun r F' h' hq1 => ?_)
  obtain ⟨rfl, r1, rfl, e9, hh⟩ := hq1
  subst h'
  refine A_ifc hM.1 rfl rfl (fun hc => ?_) (fun hc => ?_)
  · replace hh := OK_t hh hc
    refine A_blk hM.1 1 (lv1 := [some (aR 150), some (aI v1), none]) (s1 := [aI (-1000000)]) (h1 := h) rfl ?_
    exact A_reti hM.1 rfl rfl rfl (hq ((-1000000), h) hh)
  · replace hh := OK_f hh hc
    refine A_blk hM.1 3 (lv1 := [some (aR 150), some (aI v1), none]) (s1 := [aI v1, aR 161]) (h1 := h) rfl ?_
    obtain ⟨g2, hh⟩ := OK_g hh
    refine A_ald hM.1 rfl (Or.inl ⟨rfl, rfl⟩) rfl (by decide) rfl g2 ?_
    refine A_blk hM.1 1 (lv1 := [some (aR 150), some (aI v1), none]) (s1 := [aI (-1), aI (h 161 ((w32 v1).toNat))]) (h1 := h) rfl ?_
    refine A_icmp hM.1 rfl rfl (fun hc => ?_) (fun hc => ?_)
    · replace hh := OK_t hh hc
      refine A_blk hM.1 1 (lv1 := [some (aR 150), some (aI v1), none]) (s1 := [aI (-1000000)]) (h1 := h) rfl ?_
      exact A_reti hM.1 rfl rfl rfl (hq ((-1000000), h) hh)
    · replace hh := OK_f hh hc
      refine A_blk hM.1 4 (lv1 := [some (aR 150), some (aI v1), none]) (s1 := [aI v1, aR 161, aR 150]) (h1 := h) rfl ?_
      obtain ⟨g3, hh⟩ := OK_g hh
      refine A_ald hM.1 rfl (Or.inl ⟨rfl, rfl⟩) rfl (by decide) rfl g3 ?_
      refine A_callV hM rfl rfl (mem_GW 2218 (by decide +kernel) rfl) mi_X12_isOrdered (As := [aI (h 161 ((w32 v1).toNat))]) (rest := []) (ct_X12_isOrdered (h 161 ((w32 v1).toNat)) h (OK_bind hh)) (by decide) ⟨Nat.zero_le _, Nat.zero_le _⟩ rfl rfl (Nat.le_of_ble_eq_true rfl) (by decide) rfl (by decide) rfl (fun r F' h' hq1 => ?_)
      obtain ⟨rfl, r4, rfl, e9, hh⟩ := hq1
      subst h'
      refine A_ifc hM.1 rfl rfl (fun hc => ?_) (fun hc => ?_)
      · replace hh := OK_t hh hc
        refine A_blk hM.1 6 (lv1 := [some (aR 150), some (aI v1), some (aI (r4.2 150 84))]) (s1 := [aI 1, aI (r4.2 150 78)]) (h1 := r4.2) rfl ?_
        refine A_icmp hM.1 rfl rfl (fun hc => ?_) (fun hc => ?_)
        · replace hh := OK_t hh hc
          refine A_blk hM.1 4 (lv1 := [some (aR 150), some (aI v1), some (aI (r4.2 150 84))]) (s1 := [aI v1, aR 161, aR 150]) (h1 := r4.2) rfl ?_
          obtain ⟨g5, hh⟩ := OK_g hh
          refine A_ald hM.1 rfl (Or.inl ⟨rfl, rfl⟩) rfl (by decide) rfl g5 ?_
          refine A_blk hM.1 1 (lv1 := [some (aR 150), some (aI v1), some (aI (r4.2 150 84))]) (s1 := [aI v1, aI (r4.2 161 ((w32 v1).toNat)), aR 150]) (h1 := r4.2) rfl ?_
          refine A_callV hM rfl rfl (mem_GW 2222 (by decide +kernel) rfl) mi_X12_gathers (As := [aI (r4.2 161 ((w32 v1).toNat)), aI v1]) (rest := []) (ct_X12_gathers (r4.2 161 ((w32 v1).toNat)) v1 r4.2 (OK_bind hh)) (by decide) ⟨Nat.zero_le _, Nat.zero_le _⟩ rfl rfl (Nat.le_of_ble_eq_true rfl) (by decide) rfl (by decide) rfl (fun r F' h' hq1 => ?_)
          obtain ⟨rfl, r6, rfl, e9, hh⟩ := hq1
          subst h'
          refine A_ifc hM.1 rfl rfl (fun hc => ?_) (fun hc => ?_)
          · replace hh := OK_t hh hc
            refine A_blk hM.1 1 (lv1 := [some (aR 150), some (aI v1), some (aI (r4.2 150 84))]) (s1 := [aI (-1000000)]) (h1 := r6.2) rfl ?_
            exact A_reti hM.1 rfl rfl rfl (hq ((-1000000), r6.2) hh)
          · replace hh := OK_f hh hc
            refine A_blk hM.1 1 (lv1 := [some (aR 150), some (aI v1), some (aI (r4.2 150 84))]) (s1 := [aR 150]) (h1 := r6.2) rfl ?_
            refine A_callV hM rfl rfl (mem_GW 2230 (by decide +kernel) rfl) mi_X12_laysOrder (As := []) (rest := []) (ct_X12_laysOrder r6.2 (OK_bind hh)) (by decide) ⟨Nat.zero_le _, Nat.zero_le _⟩ rfl rfl (Nat.le_of_ble_eq_true rfl) (by decide) rfl (by decide) rfl (fun r F' h' hq1 => ?_)
            obtain ⟨rfl, r7, rfl, e9, hh⟩ := hq1
            subst h'
            refine A_ifc hM.1 rfl rfl (fun hc => ?_) (fun hc => ?_)
            · replace hh := OK_t hh hc
              refine A_blk hM.1 1 (lv1 := [some (aR 150), some (aI v1), some (aI (r4.2 150 84))]) (s1 := [aI (-1000000)]) (h1 := r7.2) rfl ?_
              exact A_reti hM.1 rfl rfl rfl (hq ((-1000000), r7.2) hh)
            · replace hh := OK_f hh hc
              refine A_blk hM.1 4 (lv1 := [some (aR 150), some (aI v1), some (aI (r4.2 150 84))]) (s1 := [aI ((r4.2 150 84) - (r7.2 150 84))]) (h1 := r7.2) rfl ?_
              refine A_go hM.1 rfl rfl ?_
              exact A_reti hM.1 rfl rfl rfl (hq ((r4.2 150 84) - (r7.2 150 84), r7.2) hh)
        · replace hh := OK_f hh hc
          refine A_blk hM.1 1 (lv1 := [some (aR 150), some (aI v1), some (aI (r4.2 150 84))]) (s1 := [aI (r4.2 150 84)]) (h1 := r4.2) rfl ?_
          exact A_reti hM.1 rfl rfl rfl (hq (r4.2 150 84, r4.2) hh)
      · replace hh := OK_f hh hc
        refine A_blk hM.1 1 (lv1 := [some (aR 150), some (aI v1), none]) (s1 := [aI (-1000000)]) (h1 := r4.2) rfl ?_
        exact A_reti hM.1 rfl rfl rfl (hq ((-1000000), r4.2) hh)

set_option maxRecDepth 20000 in
set_option maxHeartbeats 4000000 in
theorem ct_X12_moves {G : Gx} (v1 : Int) (h : Hp)   {P : (Int × Hp) → Prop} (hh : OK (X12_moves v1 h) P) : CT G yX12_moves M_X12_moves 7 0 0 FN h [aR 150, aI v1] (fun r F' h' => F' = FN ∧ ∃ z, r = some (aI z.1) ∧ h' = z.2 ∧ P z) :=
  CT.of (by decide +kernel) rfl (Nat.le_of_ble_eq_true rfl) k_X12_moves fun k0 _ _ hM => c_X12_moves hM v1 h (fun z hz => ⟨rfl, z, rfl, rfl, hz⟩) hh

theorem mi_X12_speaks : MIv yX12_speaks M_X12_speaks 3 := ⟨⟨(mem_GW 2278 (by decide +kernel) rfl), (mem_GW 135 (by decide +kernel) rfl), by decide +kernel, by decide +kernel, by decide +kernel, by decide⟩, (mem_GW 2277 (by decide +kernel) rfl), (mem_GW 114 (by decide +kernel) rfl)⟩
set_option maxRecDepth 20000 in
set_option maxHeartbeats 4000000 in
theorem c_X12_speaks {k0 : K0} {G : Gx} {Qp : Option AV → Fx → Hp → Prop} (hM : MB (KM k0 0 0 Qp) G M_X12_speaks 5) (v1 : Int) (v2 : Int) (v3 : Int) (h : Hp)   {P : (Int × Hp) → Prop} (hq : ∀ z : Int × Hp, P z → Qp (some (aI z.1)) FN z.2) (hh : OK (X12_speaks v1 v2 v3 h) P) : ATk (KM k0 0 0 Qp) FN 0 0 M_X12_speaks 0 [some (aR 150), some (aI v1), some (aI v2), some (aI v3)] [] h := by
  unfold X12_speaks at hh
  refine A_blk hM.1 1 (lv1 := [some (aR 150), some (aI v1), some (aI v2), some (aI v3)]) (s1 := [aR 150]) (h1 := h) rfl ?_
  refine A_callV hM rfl rfl (mem_GW 2059 (by decide +kernel) rfl) mi_X12_clears (As := []) (rest := []) (ct_X12_clears h (OK_bind hh)) (by decide) ⟨Nat.zero_le _, Nat.zero_le _⟩ rfl rfl (Nat.le_of_ble_eq_true rfl) (by decide) rfl (by decide) rfl (fun r F' h' hq1 => ?_)
  obtain ⟨rfl, rfl, hh⟩ := hq1
  obtain ⟨r1, rfl⟩ : ∃ z, z = h' := ⟨_, rfl⟩
  refine A_blk hM.1 14 (lv1 := [some (aR 150), some (aI v1), some (aI v2), some (aI v3)]) (s1 := [aI 100, aI 0, aI 103, aI 10, aR 150]) (h1 := setH (setH (setH r1 150 44 v1) 150 45 v2) 150 50 v3) rfl ?_
  refine A_callV hM rfl rfl (mem_GW 2063 (by decide +kernel) rfl) mi_X12_tells (As := [aI 10, aI 103, aI 0, aI 100]) (rest := []) (ct_X12_tells 10 103 0 100 (setH (setH (setH r1 150 44 v1) 150 45 v2) 150 50 v3) (OK_bind hh)) (by decide) ⟨Nat.zero_le _, Nat.zero_le _⟩ rfl rfl (Nat.le_of_ble_eq_true rfl) (by decide) rfl (by decide) rfl (fun r F' h' hq1 => ?_)
  obtain ⟨rfl, r2, rfl, e9, hh⟩ := hq1
  subst h'
  exact A_reti hM.1 rfl rfl rfl (hq (r2.1, r2.2) hh)

set_option maxRecDepth 20000 in
set_option maxHeartbeats 4000000 in
theorem ct_X12_speaks {G : Gx} (v1 : Int) (v2 : Int) (v3 : Int) (h : Hp)   {P : (Int × Hp) → Prop} (hh : OK (X12_speaks v1 v2 v3 h) P) : CT G yX12_speaks M_X12_speaks 5 0 0 FN h [aR 150, aI v1, aI v2, aI v3] (fun r F' h' => F' = FN ∧ ∃ z, r = some (aI z.1) ∧ h' = z.2 ∧ P z) :=
  CT.of (by decide +kernel) rfl (Nat.le_of_ble_eq_true rfl) k_X12_speaks fun k0 _ _ hM => c_X12_speaks hM v1 v2 v3 h (fun z hz => ⟨rfl, z, rfl, rfl, hz⟩) hh

theorem mi_X12_truthOf : MIv yX12_truthOf M_X12_truthOf 3 := ⟨⟨(mem_GW 2274 (by decide +kernel) rfl), (mem_GW 135 (by decide +kernel) rfl), by decide +kernel, by decide +kernel, by decide +kernel, by decide⟩, (mem_GW 2273 (by decide +kernel) rfl), (mem_GW 113 (by decide +kernel) rfl)⟩
set_option maxRecDepth 20000 in
set_option maxHeartbeats 4000000 in
theorem c_X12_truthOf_j24 {k0 : K0} {G : Gx} {Qp : Option AV → Fx → Hp → Prop} (hM : MB (KM k0 0 0 Qp) G M_X12_truthOf 6) (v1 : Int) (v3 : Int) (v4 : Int) (v5 : Int) (v7 : Int) (h : Hp)   {P : ((Int × Int × Hp) ⊕ (Int × Hp)) → Prop} (hin : ∀ y : Int × Int × Hp, P (.inl y) → ATk (KM k0 0 0 Qp) FN 0 0 M_X12_truthOf 4 [some (aR 150), some (aL v1), none, some (aI v3), some (aI v4), some (aL y.1), none, some (aI y.2.1)] [] y.2.2) (hout0 : ∀ y : Int × Hp, P (.inr y) → ATk (KM k0 0 0 Qp) FN 0 0 M_X12_truthOf 26 [none, none, none, none, none, some (aL y.1), none, none] [] y.2) (hh : OK (X12_truthOf_j24 v1 v3 v4 v5 v7 h) P) : ATk (KM k0 0 0 Qp) FN 0 0 M_X12_truthOf 24 [some (aR 150), some (aL v1), none, some (aI v3), some (aI v4), some (aL v5), none, some (aI v7)] [] h := by
  unfold X12_truthOf_j24 at hh
  refine A_blk hM.1 1 (lv1 := [some (aR 150), some (aL v1), none, some (aI v3), some (aI v4), some (aL v5), none, some (aI (v7 + 1))]) (s1 := []) (h1 := h) rfl ?_
  refine A_go hM.1 rfl rfl ?_
  exact hin (v5, v7 + 1, h) hh

set_option maxRecDepth 20000 in
set_option maxHeartbeats 4000000 in
theorem c_X12_truthOf_l4 {k0 : K0} {G : Gx} {Qp : Option AV → Fx → Hp → Prop} (hM : MB (KM k0 0 0 Qp) G M_X12_truthOf 6) (v1 : Int) (v3 : Int) (v4 : Int) (x : Int × Int × Hp)   {P : ((Int × Int × Hp) ⊕ (Int × Hp)) → Prop} (hin : ∀ y : Int × Int × Hp, P (.inl y) → ATk (KM k0 0 0 Qp) FN 0 0 M_X12_truthOf 4 [some (aR 150), some (aL v1), none, some (aI v3), some (aI v4), some (aL y.1), none, some (aI y.2.1)] [] y.2.2) (hout0 : ∀ y : Int × Hp, P (.inr y) → ATk (KM k0 0 0 Qp) FN 0 0 M_X12_truthOf 26 [none, none, none, none, none, some (aL y.1), none, none] [] y.2) (hh : OK (X12_truthOf_l4 v1 v3 v4 x) P) : ATk (KM k0 0 0 Qp) FN 0 0 M_X12_truthOf 4 [some (aR 150), some (aL v1), none, some (aI v3), some (aI v4), some (aL x.1), none, some (aI x.2.1)] [] x.2.2 := by
  unfold X12_truthOf_l4 at hh
  refine A_blk hM.1 3 (lv1 := [some (aR 150), some (aL v1), none, some (aI v3), some (aI v4), some (aL x.1), none, some (aI x.2.1)]) (s1 := [aI (x.2.2 150 5), aI x.2.1]) (h1 := x.2.2) rfl ?_
  refine A_icmp hM.1 rfl rfl (fun hc => ?_) (fun hc => ?_)
  · replace hh := OK_t hh hc
    refine A_mask [false, false, true, false, false, true, true, false] (lv1 := [none, none, none, none, none, some (aL x.1), none, none]) rfl ?_
    exact hout0 (x.1, x.2.2) hh
  · replace hh := OK_f hh hc
    refine A_blk hM.1 2 (lv1 := [some (aR 150), some (aL v1), none, some (aI v3), some (aI v4), some (aL x.1), none, some (aI x.2.1)]) (s1 := [aI x.2.1, aL v1]) (h1 := x.2.2) rfl ?_
    refine A_callS hM rfl rfl (mem_GW 2195 (by decide +kernel) rfl) mi_X12_has ms_X12_has (As := [aL v1, aI x.2.1]) (rest := []) (ct_X12_has v1 x.2.1 x.2.2 (OK_bind hh)) (by decide) ⟨Nat.zero_le _, Nat.zero_le _⟩ rfl rfl (Nat.le_of_ble_eq_true rfl) (fun r F' h' hq1 => ?_)
    obtain ⟨rfl, r1, rfl, e9, hh⟩ := hq1
    subst h'
    refine A_ifc hM.1 rfl rfl (fun hc => ?_) (fun hc => ?_)
    · replace hh := OK_t hh hc
      exact c_X12_truthOf_j24 hM v1 v3 v4 x.1 x.2.1 x.2.2 hin hout0 hh
    · replace hh := OK_f hh hc
      refine A_blk hM.1 5 (lv1 := [some (aR 150), some (aL v1), none, some (aI v3), some (aI v4), some (aL x.1), none, some (aI x.2.1)]) (s1 := [aI x.2.1, aR 162, aR 150, aL x.1]) (h1 := x.2.2) rfl ?_
      obtain ⟨g2, hh⟩ := OK_g hh
      refine A_ald hM.1 rfl (Or.inl ⟨rfl, rfl⟩) rfl (by decide) rfl g2 ?_
      refine A_blk hM.1 2 (lv1 := [some (aR 150), some (aL v1), none, some (aI v3), some (aI v4), some (aL x.1), none, some (aI x.2.1)]) (s1 := [aI v3, aI v4, aI (x.2.2 162 ((w32 x.2.1).toNat)), aR 150, aL x.1]) (h1 := x.2.2) rfl ?_
      refine A_callV hM rfl rfl (mem_GW 2275 (by decide +kernel) rfl) mi_X12_speaks (As := [aI (x.2.2 162 ((w32 x.2.1).toNat)), aI v4, aI v3]) (rest := [aL x.1]) (ct_X12_speaks (x.2.2 162 ((w32 x.2.1).toNat)) v4 v3 x.2.2 (OK_bind hh)) (by decide) ⟨Nat.zero_le _, Nat.zero_le _⟩ rfl rfl (Nat.le_of_ble_eq_true rfl) (by decide) rfl (by decide) rfl (fun r F' h' hq1 => ?_)
      obtain ⟨rfl, r3, rfl, e9, hh⟩ := hq1
      subst h'
      refine A_blk hM.1 3 (lv1 := [some (aR 150), some (aL v1), none, some (aI v3), some (aI v4), some (aL (x.1 * (w32 r3.1))), none, some (aI x.2.1)]) (s1 := []) (h1 := r3.2) rfl ?_
      exact c_X12_truthOf_j24 hM v1 v3 v4 (x.1 * (w32 r3.1)) x.2.1 r3.2 hin hout0 hh

set_option maxRecDepth 20000 in
set_option maxHeartbeats 4000000 in
theorem c_X12_truthOf {k0 : K0} {G : Gx} {Qp : Option AV → Fx → Hp → Prop} (hM : MB (KM k0 0 0 Qp) G M_X12_truthOf 6) (v1 : Int) (v3 : Int) (v4 : Int) (h : Hp)   {P : (Int × Hp) → Prop} (hq : ∀ z : Int × Hp, P z → Qp (some (aL z.1)) FN z.2) (hh : OK (X12_truthOf v1 v3 v4 h) P) : ATk (KM k0 0 0 Qp) FN 0 0 M_X12_truthOf 0 [some (aR 150), some (aL v1), none, some (aI v3), some (aI v4), none, none, none] [] h := by
  unfold X12_truthOf at hh
  refine A_blk hM.1 4 (lv1 := [some (aR 150), some (aL v1), none, some (aI v3), some (aI v4), some (aL 1), none, some (aI 0)]) (s1 := []) (h1 := h) rfl ?_
  refine iter_ok (s := (1, 0, h)) (Gp := fun z => ATk (KM k0 0 0 Qp) FN 0 0 M_X12_truthOf 4 [some (aR 150), some (aL v1), none, some (aI v3), some (aI v4), some (aL z.1), none, some (aI z.2.1)] [] z.2.2) (E := fun z => ATk (KM k0 0 0 Qp) FN 0 0 M_X12_truthOf 26 [none, none, none, none, none, some (aL z.1), none, none] [] z.2) (fun z P1 g1 g2 g3 => c_X12_truthOf_l4 hM v1 v3 v4 z g2 g3 g1) (OK_bind hh) (fun x4 hh => ?_)
  refine A_blk hM.1 1 (lv1 := [none, none, none, none, none, some (aL x4.1), none, none]) (s1 := [aL x4.1]) (h1 := x4.2) rfl ?_
  exact A_retl hM.1 rfl rfl rfl (hq (x4.1, x4.2) hh)

set_option maxRecDepth 20000 in
set_option maxHeartbeats 4000000 in
theorem ct_X12_truthOf {G : Gx} (v1 : Int) (v3 : Int) (v4 : Int) (h : Hp)   {P : (Int × Hp) → Prop} (hh : OK (X12_truthOf v1 v3 v4 h) P) : CT G yX12_truthOf M_X12_truthOf 6 0 0 FN h [aR 150, aL v1, aI v3, aI v4] (fun r F' h' => F' = FN ∧ ∃ z, r = some (aL z.1) ∧ h' = z.2 ∧ P z) :=
  CT.of (by decide +kernel) rfl (Nat.le_of_ble_eq_true rfl) k_X12_truthOf fun k0 _ _ hM => c_X12_truthOf hM v1 v3 v4 h (fun z hz => ⟨rfl, z, rfl, rfl, hz⟩) hh

theorem mi_X12_truth : MIv yX12_truth M_X12_truth 3 := ⟨⟨(mem_GW 2270 (by decide +kernel) rfl), (mem_GW 135 (by decide +kernel) rfl), by decide +kernel, by decide +kernel, by decide +kernel, by decide⟩, (mem_GW 2268 (by decide +kernel) rfl), (mem_GW 2269 (by decide +kernel) rfl)⟩
set_option maxRecDepth 20000 in
set_option maxHeartbeats 4000000 in
theorem c_X12_truth_j51 {k0 : K0} {G : Gx} {Qp : Option AV → Fx → Hp → Prop} (hM : MB (KM k0 0 0 Qp) G M_X12_truth 7) (v1 : Int) (v3 : Int) (v4 : Int) (v5 : Int) (h : Hp)   {P : ((Int × Hp) ⊕ ((Hp) ⊕ (Hp))) → Prop} (hin : ∀ y : Int × Hp, P (.inl y) → ATk (KM k0 0 0 Qp) FN 0 0 M_X12_truth 36 [some (aR 150), some (aL v1), none, some (aI v3), some (aI v4), some (aI y.1), none, none] [] y.2) (hout0 : ∀ y : Hp, P (.inr (.inl y)) → ATk (KM k0 0 0 Qp) FN 0 0 M_X12_truth 49 [none, none, none, none, none, none, none, none] [] y) (hout1 : ∀ y : Hp, P (.inr (.inr y)) → ATk (KM k0 0 0 Qp) FN 0 0 M_X12_truth 53 [some (aR 150), some (aL v1), none, some (aI v3), some (aI v4), none, none, none] [] y) (hh : OK (X12_truth_j51 v1 v3 v4 v5 h) P) : ATk (KM k0 0 0 Qp) FN 0 0 M_X12_truth 51 [some (aR 150), some (aL v1), none, some (aI v3), some (aI v4), some (aI v5), none, none] [] h := by
  unfold X12_truth_j51 at hh
  refine A_blk hM.1 1 (lv1 := [some (aR 150), some (aL v1), none, some (aI v3), some (aI v4), some (aI (v5 + 1)), none, none]) (s1 := []) (h1 := h) rfl ?_
  refine A_go hM.1 rfl rfl ?_
  exact hin (v5 + 1, h) hh

set_option maxRecDepth 20000 in
set_option maxHeartbeats 4000000 in
theorem c_X12_truth_l36 {k0 : K0} {G : Gx} {Qp : Option AV → Fx → Hp → Prop} (hM : MB (KM k0 0 0 Qp) G M_X12_truth 7) (v1 : Int) (v3 : Int) (v4 : Int) (x : Int × Hp)   {P : ((Int × Hp) ⊕ ((Hp) ⊕ (Hp))) → Prop} (hin : ∀ y : Int × Hp, P (.inl y) → ATk (KM k0 0 0 Qp) FN 0 0 M_X12_truth 36 [some (aR 150), some (aL v1), none, some (aI v3), some (aI v4), some (aI y.1), none, none] [] y.2) (hout0 : ∀ y : Hp, P (.inr (.inl y)) → ATk (KM k0 0 0 Qp) FN 0 0 M_X12_truth 49 [none, none, none, none, none, none, none, none] [] y) (hout1 : ∀ y : Hp, P (.inr (.inr y)) → ATk (KM k0 0 0 Qp) FN 0 0 M_X12_truth 53 [some (aR 150), some (aL v1), none, some (aI v3), some (aI v4), none, none, none] [] y) (hh : OK (X12_truth_l36 v1 v3 v4 x) P) : ATk (KM k0 0 0 Qp) FN 0 0 M_X12_truth 36 [some (aR 150), some (aL v1), none, some (aI v3), some (aI v4), some (aI x.1), none, none] [] x.2 := by
  unfold X12_truth_l36 at hh
  refine A_blk hM.1 3 (lv1 := [some (aR 150), some (aL v1), none, some (aI v3), some (aI v4), some (aI x.1), none, none]) (s1 := [aI (x.2 150 5), aI x.1]) (h1 := x.2) rfl ?_
  refine A_icmp hM.1 rfl rfl (fun hc => ?_) (fun hc => ?_)
  · replace hh := OK_t hh hc
    refine A_mask [true, true, true, true, true, false, true, true] (lv1 := [some (aR 150), some (aL v1), none, some (aI v3), some (aI v4), none, none, none]) rfl ?_
    exact hout1 x.2 hh
  · replace hh := OK_f hh hc
    refine A_blk hM.1 2 (lv1 := [some (aR 150), some (aL v1), none, some (aI v3), some (aI v4), some (aI x.1), none, none]) (s1 := [aI x.1, aL v1]) (h1 := x.2) rfl ?_
    refine A_callS hM rfl rfl (mem_GW 2195 (by decide +kernel) rfl) mi_X12_has ms_X12_has (As := [aL v1, aI x.1]) (rest := []) (ct_X12_has v1 x.1 x.2 (OK_bind hh)) (by decide) ⟨Nat.zero_le _, Nat.zero_le _⟩ rfl rfl (Nat.le_of_ble_eq_true rfl) (fun r F' h' hq1 => ?_)
    obtain ⟨rfl, r4, rfl, e9, hh⟩ := hq1
    subst h'
    refine A_ifc hM.1 rfl rfl (fun hc => ?_) (fun hc => ?_)
    · replace hh := OK_t hh hc
      exact c_X12_truth_j51 hM v1 v3 v4 x.1 x.2 hin hout0 hout1 hh
    · replace hh := OK_f hh hc
      refine A_blk hM.1 3 (lv1 := [some (aR 150), some (aL v1), none, some (aI v3), some (aI v4), some (aI x.1), none, none]) (s1 := [aI x.1, aR 162]) (h1 := x.2) rfl ?_
      obtain ⟨g5, hh⟩ := OK_g hh
      refine A_ald hM.1 rfl (Or.inl ⟨rfl, rfl⟩) rfl (by decide) rfl g5 ?_
      refine A_ifc hM.1 rfl rfl (fun hc => ?_) (fun hc => ?_)
      · replace hh := OK_t hh hc
        exact c_X12_truth_j51 hM v1 v3 v4 x.1 x.2 hin hout0 hout1 hh
      · replace hh := OK_f hh hc
        refine A_mask [false, false, true, false, false, false, true, true] (lv1 := [none, none, none, none, none, none, none, none]) rfl ?_
        exact hout0 x.2 hh

set_option maxRecDepth 20000 in
set_option maxHeartbeats 4000000 in
theorem c_X12_truth_l65 {k0 : K0} {G : Gx} {Qp : Option AV → Fx → Hp → Prop} (hM : MB (KM k0 0 0 Qp) G M_X12_truth 7) (v1 : Int) (v3 : Int) (x : Int × Int × Hp)   {P : ((Int × Int × Hp) ⊕ (Int × Hp)) → Prop} (hin : ∀ y : Int × Int × Hp, P (.inl y) → ATk (KM k0 0 0 Qp) FN 0 0 M_X12_truth 65 [some (aR 150), some (aL v1), none, some (aI v3), none, some (aL y.1), none, some (aI y.2.1)] [] y.2.2) (hout0 : ∀ y : Int × Hp, P (.inr y) → ATk (KM k0 0 0 Qp) FN 0 0 M_X12_truth 78 [none, none, none, none, none, some (aL y.1), none, none] [] y.2) (hh : OK (X12_truth_l65 v1 v3 x) P) : ATk (KM k0 0 0 Qp) FN 0 0 M_X12_truth 65 [some (aR 150), some (aL v1), none, some (aI v3), none, some (aL x.1), none, some (aI x.2.1)] [] x.2.2 := by
  unfold X12_truth_l65 at hh
  refine A_blk hM.1 2 (lv1 := [some (aR 150), some (aL v1), none, some (aI v3), none, some (aL x.1), none, some (aI x.2.1)]) (s1 := [aI v3, aI x.2.1]) (h1 := x.2.2) rfl ?_
  refine A_icmp hM.1 rfl rfl (fun hc => ?_) (fun hc => ?_)
  · replace hh := OK_t hh hc
    refine A_mask [false, false, true, false, true, true, true, false] (lv1 := [none, none, none, none, none, some (aL x.1), none, none]) rfl ?_
    exact hout0 (x.1, x.2.2) hh
  · replace hh := OK_f hh hc
    refine A_blk hM.1 5 (lv1 := [some (aR 150), some (aL v1), none, some (aI v3), none, some (aL x.1), none, some (aI x.2.1)]) (s1 := [aI x.2.1, aI v3, aL v1, aR 150, aL x.1]) (h1 := x.2.2) rfl ?_
    refine A_callV hM rfl rfl (mem_GW 2271 (by decide +kernel) rfl) mi_X12_truthOf (As := [aL v1, aI v3, aI x.2.1]) (rest := [aL x.1]) (ct_X12_truthOf v1 v3 x.2.1 x.2.2 (OK_bind hh)) (by decide) ⟨Nat.zero_le _, Nat.zero_le _⟩ rfl rfl (Nat.le_of_ble_eq_true rfl) (by decide) rfl (by decide) rfl (fun r F' h' hq1 => ?_)
    obtain ⟨rfl, r9, rfl, e9, hh⟩ := hq1
    subst h'
    refine A_blk hM.1 3 (lv1 := [some (aR 150), some (aL v1), none, some (aI v3), none, some (aL (x.1 + r9.1)), none, some (aI (x.2.1 + 1))]) (s1 := []) (h1 := r9.2) rfl ?_
    refine A_go hM.1 rfl rfl ?_
    exact hin (x.1 + r9.1, x.2.1 + 1, r9.2) hh

set_option maxRecDepth 20000 in
set_option maxHeartbeats 4000000 in
theorem c_X12_truth {k0 : K0} {G : Gx} {Qp : Option AV → Fx → Hp → Prop} (hM : MB (KM k0 0 0 Qp) G M_X12_truth 7) (v1 : Int) (v3 : Int) (v4 : Int) (h : Hp)   {P : (Int × Hp) → Prop} (hq : ∀ z : Int × Hp, P z → Qp (some (aL z.1)) FN z.2) (hh : OK (X12_truth v1 v3 v4 h) P) : ATk (KM k0 0 0 Qp) FN 0 0 M_X12_truth 0 [some (aR 150), some (aL v1), none, some (aI v3), some (aI v4), none, none, none] [] h := by
  unfold X12_truth at hh
  refine A_blk hM.1 3 (lv1 := [some (aR 150), some (aL v1), none, some (aI v3), some (aI v4), none, none, none]) (s1 := [aI (cmp64 v1 0)]) (h1 := h) rfl ?_
  refine A_ifc hM.1 rfl rfl (fun hc => ?_) (fun hc => ?_)
  · replace hh := OK_t hh hc
    refine A_blk hM.1 1 (lv1 := [some (aR 150), some (aL v1), none, some (aI v3), some (aI v4), none, none, none]) (s1 := [aL (-1)]) (h1 := h) rfl ?_
    exact A_retl hM.1 rfl rfl rfl (hq ((-1), h) hh)
  · replace hh := OK_f hh hc
    refine A_blk hM.1 6 (lv1 := [some (aR 150), some (aL v1), none, some (aI v3), some (aI v4), none, none, none]) (s1 := [aI (cmp64 (shr64 v1 (h 150 5)) 0)]) (h1 := h) rfl ?_
    refine A_ifc hM.1 rfl rfl (fun hc => ?_) (fun hc => ?_)
    · replace hh := OK_t hh hc
      refine A_blk hM.1 1 (lv1 := [some (aR 150), some (aL v1), none, some (aI v3), some (aI v4), none, none, none]) (s1 := [aL (-1)]) (h1 := h) rfl ?_
      exact A_retl hM.1 rfl rfl rfl (hq ((-1), h) hh)
    · replace hh := OK_f hh hc
      refine A_blk hM.1 3 (lv1 := [some (aR 150), some (aL v1), none, some (aI v3), some (aI v4), none, none, none]) (s1 := [aI (cmp64 v1 0)]) (h1 := h) rfl ?_
      refine A_ifc hM.1 rfl rfl (fun hc => ?_) (fun hc => ?_)
      · replace hh := OK_t hh hc
        refine A_blk hM.1 1 (lv1 := [some (aR 150), some (aL v1), none, some (aI v3), some (aI v4), none, none, none]) (s1 := [aL (-1)]) (h1 := h) rfl ?_
        exact A_retl hM.1 rfl rfl rfl (hq ((-1), h) hh)
      · replace hh := OK_f hh hc
        refine A_blk hM.1 1 (lv1 := [some (aR 150), some (aL v1), none, some (aI v3), some (aI v4), none, none, none]) (s1 := [aL v1]) (h1 := h) rfl ?_
        refine A_callS hM rfl rfl (mem_GW 2164 (by decide +kernel) rfl) mi_X12_sizeOf ms_X12_sizeOf (As := [aL v1]) (rest := []) (ct_X12_sizeOf v1 h (OK_bind hh)) (by decide) ⟨Nat.zero_le _, Nat.zero_le _⟩ rfl rfl (Nat.le_of_ble_eq_true rfl) (fun r F' h' hq1 => ?_)
        obtain ⟨rfl, r1, rfl, e9, hh⟩ := hq1
        subst h'
        refine A_blk hM.1 1 (lv1 := [some (aR 150), some (aL v1), none, some (aI v3), some (aI v4), none, none, none]) (s1 := [aI 6, aI r1]) (h1 := h) rfl ?_
        refine A_icmp hM.1 rfl rfl (fun hc => ?_) (fun hc => ?_)
        · replace hh := OK_t hh hc
          refine A_blk hM.1 1 (lv1 := [some (aR 150), some (aL v1), none, some (aI v3), some (aI v4), none, none, none]) (s1 := [aL (-1)]) (h1 := h) rfl ?_
          exact A_retl hM.1 rfl rfl rfl (hq ((-1), h) hh)
        · replace hh := OK_f hh hc
          refine A_blk hM.1 4 (lv1 := [some (aR 150), some (aL v1), none, some (aI v3), some (aI v4), none, none, none]) (s1 := [aL 40, aL 1, aL (w32 v3)]) (h1 := h) rfl ?_
          refine A_callS hM rfl rfl (mem_GW 1879 (by decide +kernel) rfl) mi_X12_lies ms_X12_lies (As := [aL (w32 v3), aL 1, aL 40]) (rest := []) (ct_X12_lies (w32 v3) 1 40 h (OK_bind hh)) (by decide) ⟨Nat.zero_le _, Nat.zero_le _⟩ rfl rfl (Nat.le_of_ble_eq_true rfl) (fun r F' h' hq1 => ?_)
          obtain ⟨rfl, r2, rfl, e9, hh⟩ := hq1
          subst h'
          refine A_ifc hM.1 rfl rfl (fun hc => ?_) (fun hc => ?_)
          · replace hh := OK_t hh hc
            refine A_blk hM.1 1 (lv1 := [some (aR 150), some (aL v1), none, some (aI v3), some (aI v4), none, none, none]) (s1 := [aL (-1)]) (h1 := h) rfl ?_
            exact A_retl hM.1 rfl rfl rfl (hq ((-1), h) hh)
          · replace hh := OK_f hh hc
            refine A_blk hM.1 5 (lv1 := [some (aR 150), some (aL v1), none, some (aI v3), some (aI v4), none, none, none]) (s1 := [aL (w32 v3), aL 0, aL (w32 v4)]) (h1 := h) rfl ?_
            refine A_callS hM rfl rfl (mem_GW 1879 (by decide +kernel) rfl) mi_X12_lies ms_X12_lies (As := [aL (w32 v4), aL 0, aL (w32 v3)]) (rest := []) (ct_X12_lies (w32 v4) 0 (w32 v3) h (OK_bind hh)) (by decide) ⟨Nat.zero_le _, Nat.zero_le _⟩ rfl rfl (Nat.le_of_ble_eq_true rfl) (fun r F' h' hq1 => ?_)
            obtain ⟨rfl, r3, rfl, e9, hh⟩ := hq1
            subst h'
            refine A_ifc hM.1 rfl rfl (fun hc => ?_) (fun hc => ?_)
            · replace hh := OK_t hh hc
              refine A_blk hM.1 2 (lv1 := [some (aR 150), some (aL v1), none, some (aI v3), some (aI v4), some (aI 0), none, none]) (s1 := []) (h1 := h) rfl ?_
              refine iter_ok (s := (0, h)) (Gp := fun z => ATk (KM k0 0 0 Qp) FN 0 0 M_X12_truth 36 [some (aR 150), some (aL v1), none, some (aI v3), some (aI v4), some (aI z.1), none, none] [] z.2) (E := fun z => (∀ y, z = (.inl y) → ATk (KM k0 0 0 Qp) FN 0 0 M_X12_truth 49 [none, none, none, none, none, none, none, none] [] y) ∧ (∀ y, z = (.inr y) → ATk (KM k0 0 0 Qp) FN 0 0 M_X12_truth 53 [some (aR 150), some (aL v1), none, some (aI v3), some (aI v4), none, none, none] [] y)) (fun z P1 g1 g2 g3 => c_X12_truth_l36 hM v1 v3 v4 z g2 (fun y hy => (g3 (.inl y) hy).1 y rfl) (fun y hy => (g3 (.inr y) hy).2 y rfl) g1) (OK_bind hh) (fun x6 hh => ?_)
              refine ⟨fun y e => ?_, fun y e => ?_⟩
              · obtain ⟨y7, rfl⟩ : ∃ z, z = y := ⟨_, rfl⟩
                subst e
                refine A_blk hM.1 1 (lv1 := [none, none, none, none, none, none, none, none]) (s1 := [aL (-1)]) (h1 := y7) rfl ?_
                exact A_retl hM.1 rfl rfl rfl (hq ((-1), y7) hh)
              · obtain ⟨y8, rfl⟩ : ∃ z, z = y := ⟨_, rfl⟩
                subst e
                refine A_blk hM.1 1 (lv1 := [some (aR 150), some (aL v1), none, some (aI v3), some (aI v4), none, none, none]) (s1 := [aI v4]) (h1 := y8) rfl ?_
                refine A_ifc hM.1 rfl rfl (fun hc => ?_) (fun hc => ?_)
                · replace hh := OK_t hh hc
                  refine A_blk hM.1 4 (lv1 := [some (aR 150), some (aL v1), none, some (aI v3), some (aI v4), some (aL 0), none, some (aI 1)]) (s1 := []) (h1 := y8) rfl ?_
                  refine A_mask [true, true, true, true, false, true, true, true] (lv1 := [some (aR 150), some (aL v1), none, some (aI v3), none, some (aL 0), none, some (aI 1)]) rfl ?_
                  refine iter_ok (s := (0, 1, y8)) (Gp := fun z => ATk (KM k0 0 0 Qp) FN 0 0 M_X12_truth 65 [some (aR 150), some (aL v1), none, some (aI v3), none, some (aL z.1), none, some (aI z.2.1)] [] z.2.2) (E := fun z => ATk (KM k0 0 0 Qp) FN 0 0 M_X12_truth 78 [none, none, none, none, none, some (aL z.1), none, none] [] z.2) (fun z P1 g1 g2 g3 => c_X12_truth_l65 hM v1 v3 z g2 g3 g1) (OK_bind hh) (fun x10 hh => ?_)
                  refine A_blk hM.1 1 (lv1 := [none, none, none, none, none, some (aL x10.1), none, none]) (s1 := [aL x10.1]) (h1 := x10.2) rfl ?_
                  exact A_retl hM.1 rfl rfl rfl (hq (x10.1, x10.2) hh)
                · replace hh := OK_f hh hc
                  refine A_blk hM.1 4 (lv1 := [some (aR 150), some (aL v1), none, some (aI v3), some (aI v4), none, none, none]) (s1 := [aI v4, aI v3, aL v1, aR 150]) (h1 := y8) rfl ?_
                  refine A_callV hM rfl rfl (mem_GW 2271 (by decide +kernel) rfl) mi_X12_truthOf (As := [aL v1, aI v3, aI v4]) (rest := []) (ct_X12_truthOf v1 v3 v4 y8 (OK_bind hh)) (by decide) ⟨Nat.zero_le _, Nat.zero_le _⟩ rfl rfl (Nat.le_of_ble_eq_true rfl) (by decide) rfl (by decide) rfl (fun r F' h' hq1 => ?_)
                  obtain ⟨rfl, r11, rfl, e9, hh⟩ := hq1
                  subst h'
                  exact A_retl hM.1 rfl rfl rfl (hq (r11.1, r11.2) hh)
            · replace hh := OK_f hh hc
              refine A_blk hM.1 1 (lv1 := [some (aR 150), some (aL v1), none, some (aI v3), some (aI v4), none, none, none]) (s1 := [aL (-1)]) (h1 := h) rfl ?_
              exact A_retl hM.1 rfl rfl rfl (hq ((-1), h) hh)

set_option maxRecDepth 20000 in
set_option maxHeartbeats 4000000 in
theorem ct_X12_truth {G : Gx} (v1 : Int) (v3 : Int) (v4 : Int) (h : Hp)   {P : (Int × Hp) → Prop} (hh : OK (X12_truth v1 v3 v4 h) P) : CT G yX12_truth M_X12_truth 7 0 0 FN h [aR 150, aL v1, aI v3, aI v4] (fun r F' h' => F' = FN ∧ ∃ z, r = some (aL z.1) ∧ h' = z.2 ∧ P z) :=
  CT.of (by decide +kernel) rfl (Nat.le_of_ble_eq_true rfl) k_X12_truth fun k0 _ _ hM => c_X12_truth hM v1 v3 v4 h (fun z hz => ⟨rfl, z, rfl, rfl, hz⟩) hh

theorem mi_X12_booksTold : MIv yX12_booksTold M_X12_booksTold 1 := ⟨⟨(mem_GW 2286 (by decide +kernel) rfl), (mem_GW 135 (by decide +kernel) rfl), by decide +kernel, by decide +kernel, by decide +kernel, by decide⟩, (mem_GW 2285 (by decide +kernel) rfl), (mem_GW 115 (by decide +kernel) rfl)⟩
set_option maxRecDepth 20000 in
set_option maxHeartbeats 4000000 in
theorem c_X12_booksTold_j30 {k0 : K0} {G : Gx} {Qp : Option AV → Fx → Hp → Prop} (hM : MB (KM k0 0 0 Qp) G M_X12_booksTold 1) (v1 : Int) (v2 : Int) (v4 : Int) (h : Hp)   {P : ((Int × Int) ⊕ (Int)) → Prop} (hin : ∀ y : Int × Int, P (.inl y) → ATk (KM k0 0 0 Qp) FN 0 0 M_X12_booksTold 4 [some (aR 150), some (aI v1), some (aL y.1), none, some (aI y.2)] [] h) (hout0 : ∀ y : Int, P (.inr y) → ATk (KM k0 0 0 Qp) FN 0 0 M_X12_booksTold 32 [none, none, some (aL y), none, none] [] h) (hh : OK (X12_booksTold_j30 v1 v2 v4 h) P) : ATk (KM k0 0 0 Qp) FN 0 0 M_X12_booksTold 30 [some (aR 150), some (aI v1), some (aL v2), none, some (aI v4)] [] h := by
  unfold X12_booksTold_j30 at hh
  refine A_blk hM.1 1 (lv1 := [some (aR 150), some (aI v1), some (aL v2), none, some (aI (v4 + 1))]) (s1 := []) (h1 := h) rfl ?_
  refine A_go hM.1 rfl rfl ?_
  exact hin (v2, v4 + 1) hh

set_option maxRecDepth 20000 in
set_option maxHeartbeats 4000000 in
theorem c_X12_booksTold_l4 {k0 : K0} {G : Gx} {Qp : Option AV → Fx → Hp → Prop} (hM : MB (KM k0 0 0 Qp) G M_X12_booksTold 1) (v1 : Int) (h : Hp) (x : Int × Int)   {P : ((Int × Int) ⊕ (Int)) → Prop} (hin : ∀ y : Int × Int, P (.inl y) → ATk (KM k0 0 0 Qp) FN 0 0 M_X12_booksTold 4 [some (aR 150), some (aI v1), some (aL y.1), none, some (aI y.2)] [] h) (hout0 : ∀ y : Int, P (.inr y) → ATk (KM k0 0 0 Qp) FN 0 0 M_X12_booksTold 32 [none, none, some (aL y), none, none] [] h) (hh : OK (X12_booksTold_l4 v1 h x) P) : ATk (KM k0 0 0 Qp) FN 0 0 M_X12_booksTold 4 [some (aR 150), some (aI v1), some (aL x.1), none, some (aI x.2)] [] h := by
  unfold X12_booksTold_l4 at hh
  refine A_blk hM.1 3 (lv1 := [some (aR 150), some (aI v1), some (aL x.1), none, some (aI x.2)]) (s1 := [aI (h 150 5), aI x.2]) (h1 := h) rfl ?_
  refine A_icmp hM.1 rfl rfl (fun hc => ?_) (fun hc => ?_)
  · replace hh := OK_t hh hc
    refine A_mask [false, false, true, true, false] (lv1 := [none, none, some (aL x.1), none, none]) rfl ?_
    exact hout0 x.1 hh
  · replace hh := OK_f hh hc
    refine A_blk hM.1 3 (lv1 := [some (aR 150), some (aI v1), some (aL x.1), none, some (aI x.2)]) (s1 := [aI x.2, aR 161]) (h1 := h) rfl ?_
    obtain ⟨g1, hh⟩ := OK_g hh
    refine A_ald hM.1 rfl (Or.inl ⟨rfl, rfl⟩) rfl (by decide) rfl g1 ?_
    refine A_blk hM.1 1 (lv1 := [some (aR 150), some (aI v1), some (aL x.1), none, some (aI x.2)]) (s1 := [aI v1, aI (h 161 ((w32 x.2).toNat))]) (h1 := h) rfl ?_
    refine A_icmp hM.1 rfl rfl (fun hc => ?_) (fun hc => ?_)
    · replace hh := OK_t hh hc
      exact c_X12_booksTold_j30 hM v1 x.1 x.2 h hin hout0 hh
    · replace hh := OK_f hh hc
      refine A_blk hM.1 3 (lv1 := [some (aR 150), some (aI v1), some (aL x.1), none, some (aI x.2)]) (s1 := [aI x.2, aR 162]) (h1 := h) rfl ?_
      obtain ⟨g2, hh⟩ := OK_g hh
      refine A_ald hM.1 rfl (Or.inl ⟨rfl, rfl⟩) rfl (by decide) rfl g2 ?_
      refine A_ifc hM.1 rfl rfl (fun hc => ?_) (fun hc => ?_)
      · replace hh := OK_t hh hc
        exact c_X12_booksTold_j30 hM v1 x.1 x.2 h hin hout0 hh
      · replace hh := OK_f hh hc
        refine A_blk hM.1 5 (lv1 := [some (aR 150), some (aI v1), some (aL x.1), none, some (aI x.2)]) (s1 := [aI x.2, aR 162, aL 1, aL x.1]) (h1 := h) rfl ?_
        obtain ⟨g3, hh⟩ := OK_g hh
        refine A_ald hM.1 rfl (Or.inl ⟨rfl, rfl⟩) rfl (by decide) rfl g3 ?_
        refine A_blk hM.1 5 (lv1 := [some (aR 150), some (aI v1), some (aL (or64 x.1 (shl64 1 ((h 162 ((w32 x.2).toNat)) - 1)))), none, some (aI x.2)]) (s1 := []) (h1 := h) rfl ?_
        exact c_X12_booksTold_j30 hM v1 (or64 x.1 (shl64 1 ((h 162 ((w32 x.2).toNat)) - 1))) x.2 h hin hout0 hh

set_option maxRecDepth 20000 in
set_option maxHeartbeats 4000000 in
theorem c_X12_booksTold {k0 : K0} {G : Gx} {Qp : Option AV → Fx → Hp → Prop} (hM : MB (KM k0 0 0 Qp) G M_X12_booksTold 1) (v1 : Int) (h : Hp)   {P : Int → Prop} (hq : ∀ z : Int, P z → Qp (some (aL z)) FN h) (hh : OK (X12_booksTold v1 h) P) : ATk (KM k0 0 0 Qp) FN 0 0 M_X12_booksTold 0 [some (aR 150), some (aI v1), none, none, none] [] h := by
  unfold X12_booksTold at hh
  refine A_blk hM.1 4 (lv1 := [some (aR 150), some (aI v1), some (aL 0), none, some (aI 0)]) (s1 := []) (h1 := h) rfl ?_
  refine iter_ok (s := (0, 0)) (Gp := fun z => ATk (KM k0 0 0 Qp) FN 0 0 M_X12_booksTold 4 [some (aR 150), some (aI v1), some (aL z.1), none, some (aI z.2)] [] h) (E := fun z => ATk (KM k0 0 0 Qp) FN 0 0 M_X12_booksTold 32 [none, none, some (aL z), none, none] [] h) (fun z P1 g1 g2 g3 => c_X12_booksTold_l4 hM v1 h z g2 g3 g1) (OK_bind hh) (fun x4 hh => ?_)
  refine A_blk hM.1 1 (lv1 := [none, none, some (aL x4), none, none]) (s1 := [aL x4]) (h1 := h) rfl ?_
  exact A_retl hM.1 rfl rfl rfl (hq x4 hh)

set_option maxRecDepth 20000 in
set_option maxHeartbeats 4000000 in
theorem ct_X12_booksTold {G : Gx} (v1 : Int) (h : Hp)   {P : Int → Prop} (hh : OK (X12_booksTold v1 h) P) : CT G yX12_booksTold M_X12_booksTold 1 0 0 FN h [aR 150, aI v1] (fun r F' h' => F' = FN ∧ ∃ z, r = some (aL z) ∧ h' = h ∧ P z) :=
  CT.of (by decide +kernel) rfl (Nat.le_of_ble_eq_true rfl) k_X12_booksTold fun k0 _ _ hM => c_X12_booksTold hM v1 h (fun z hz => ⟨rfl, z, rfl, rfl, hz⟩) hh

theorem mi_X12_greatestOf : MIs yX12_greatestOf M_X12_greatestOf 1 := ⟨(mem_GW 2290 (by decide +kernel) rfl), (mem_GW 135 (by decide +kernel) rfl), by decide +kernel, by decide +kernel, by decide +kernel, by decide⟩
theorem ms_X12_greatestOf : .static yX12_greatestOf ∈ GW := (mem_GW 2289 (by decide +kernel) rfl)
set_option maxRecDepth 20000 in
set_option maxHeartbeats 4000000 in
theorem c_X12_greatestOf_j16 {k0 : K0} {G : Gx} {Qp : Option AV → Fx → Hp → Prop} (hM : MB (KM k0 0 0 Qp) G M_X12_greatestOf 2) (v0 : Int) (v3 : Int) (s0 : Int) (h : Hp)  {P : ((Int × Int) ⊕ (Int)) → Prop} (hin : ∀ y : Int × Int, P (.inl y) → ATk (KM k0 0 0 Qp) FN 0 0 M_X12_greatestOf 4 [some (aL v0), none, some (aI y.1), some (aI y.2)] [] h) (hout0 : ∀ y : Int, P (.inr y) → ATk (KM k0 0 0 Qp) FN 0 0 M_X12_greatestOf 19 [none, none, some (aI y), none] [] h) (hh : OK (X12_greatestOf_j16 v0 v3 s0) P) : ATk (KM k0 0 0 Qp) FN 0 0 M_X12_greatestOf 16 [some (aL v0), none, none, some (aI v3)] [aI s0] h := by
  unfold X12_greatestOf_j16 at hh
  refine A_blk hM.1 2 (lv1 := [some (aL v0), none, some (aI s0), some (aI (v3 + 1))]) (s1 := []) (h1 := h) rfl ?_
  refine A_go hM.1 rfl rfl ?_
  exact hin (s0, v3 + 1) hh

set_option maxRecDepth 20000 in
set_option maxHeartbeats 4000000 in
theorem c_X12_greatestOf_l4 {k0 : K0} {G : Gx} {Qp : Option AV → Fx → Hp → Prop} (hM : MB (KM k0 0 0 Qp) G M_X12_greatestOf 2) (v0 : Int) (x : Int × Int) (h : Hp)  {P : ((Int × Int) ⊕ (Int)) → Prop} (hin : ∀ y : Int × Int, P (.inl y) → ATk (KM k0 0 0 Qp) FN 0 0 M_X12_greatestOf 4 [some (aL v0), none, some (aI y.1), some (aI y.2)] [] h) (hout0 : ∀ y : Int, P (.inr y) → ATk (KM k0 0 0 Qp) FN 0 0 M_X12_greatestOf 19 [none, none, some (aI y), none] [] h) (hh : OK (X12_greatestOf_l4 v0 x) P) : ATk (KM k0 0 0 Qp) FN 0 0 M_X12_greatestOf 4 [some (aL v0), none, some (aI x.1), some (aI x.2)] [] h := by
  unfold X12_greatestOf_l4 at hh
  refine A_blk hM.1 2 (lv1 := [some (aL v0), none, some (aI x.1), some (aI x.2)]) (s1 := [aI 40, aI x.2]) (h1 := h) rfl ?_
  refine A_icmp hM.1 rfl rfl (fun hc => ?_) (fun hc => ?_)
  · replace hh := OK_t hh hc
    refine A_mask [false, true, true, false] (lv1 := [none, none, some (aI x.1), none]) rfl ?_
    exact hout0 x.1 hh
  · replace hh := OK_f hh hc
    refine A_blk hM.1 2 (lv1 := [some (aL v0), none, some (aI x.1), some (aI x.2)]) (s1 := [aI x.2, aL v0]) (h1 := h) rfl ?_
    refine A_callS hM rfl rfl (mem_GW 2195 (by decide +kernel) rfl) mi_X12_has ms_X12_has (As := [aL v0, aI x.2]) (rest := []) (ct_X12_has v0 x.2 h (OK_bind hh)) (by decide) ⟨Nat.zero_le _, Nat.zero_le _⟩ rfl rfl (Nat.le_of_ble_eq_true rfl) (fun r F' h' hq1 => ?_)
    obtain ⟨rfl, r1, rfl, e9, hh⟩ := hq1
    subst h'
    refine A_ifc hM.1 rfl rfl (fun hc => ?_) (fun hc => ?_)
    · replace hh := OK_t hh hc
      refine A_blk hM.1 1 (lv1 := [some (aL v0), none, some (aI x.1), some (aI x.2)]) (s1 := [aI x.1]) (h1 := h) rfl ?_
      refine A_mask [true, true, false, true] (lv1 := [some (aL v0), none, none, some (aI x.2)]) rfl ?_
      exact c_X12_greatestOf_j16 hM v0 x.2 x.1 h hin hout0 hh
    · replace hh := OK_f hh hc
      refine A_blk hM.1 3 (lv1 := [some (aL v0), none, some (aI x.1), some (aI x.2)]) (s1 := [aI (x.2 + 1)]) (h1 := h) rfl ?_
      refine A_go hM.1 rfl rfl ?_
      refine A_mask [true, true, false, true] (lv1 := [some (aL v0), none, none, some (aI x.2)]) rfl ?_
      exact c_X12_greatestOf_j16 hM v0 x.2 (x.2 + 1) h hin hout0 hh

set_option maxRecDepth 20000 in
set_option maxHeartbeats 4000000 in
theorem c_X12_greatestOf {k0 : K0} {G : Gx} {Qp : Option AV → Fx → Hp → Prop} (hM : MB (KM k0 0 0 Qp) G M_X12_greatestOf 2) (v0 : Int) (h : Hp)  {P : Int → Prop} (hq : ∀ z : Int, P z → Qp (some (aI z)) FN h) (hh : OK (X12_greatestOf v0) P) : ATk (KM k0 0 0 Qp) FN 0 0 M_X12_greatestOf 0 [some (aL v0), none, none, none] [] h := by
  unfold X12_greatestOf at hh
  refine A_blk hM.1 4 (lv1 := [some (aL v0), none, some (aI 0), some (aI 0)]) (s1 := []) (h1 := h) rfl ?_
  refine iter_ok (s := (0, 0)) (Gp := fun z => ATk (KM k0 0 0 Qp) FN 0 0 M_X12_greatestOf 4 [some (aL v0), none, some (aI z.1), some (aI z.2)] [] h) (E := fun z => ATk (KM k0 0 0 Qp) FN 0 0 M_X12_greatestOf 19 [none, none, some (aI z), none] [] h) (fun z P1 g1 g2 g3 => c_X12_greatestOf_l4 hM v0 z h g2 g3 g1) (OK_bind hh) (fun x2 hh => ?_)
  refine A_blk hM.1 1 (lv1 := [none, none, some (aI x2), none]) (s1 := [aI x2]) (h1 := h) rfl ?_
  exact A_reti hM.1 rfl rfl rfl (hq x2 hh)

set_option maxRecDepth 20000 in
set_option maxHeartbeats 4000000 in
theorem ct_X12_greatestOf {G : Gx} (v0 : Int) (h : Hp)  {P : Int → Prop} (hh : OK (X12_greatestOf v0) P) : CT G yX12_greatestOf M_X12_greatestOf 2 0 0 FN h [aL v0] (fun r F' h' => F' = FN ∧ ∃ z, r = some (aI z) ∧ h' = h ∧ P z) :=
  CT.of (by decide +kernel) rfl (Nat.le_of_ble_eq_true rfl) k_X12_greatestOf fun k0 _ _ hM => c_X12_greatestOf hM v0 h (fun z hz => ⟨rfl, z, rfl, rfl, hz⟩) hh

