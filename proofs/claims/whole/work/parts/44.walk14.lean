set_option linter.all false
theorem mi_X12_tells : MIv yX12_tells M_X12_tells 4 := ⟨⟨(mem_GW 2066 (by decide +kernel) rfl), (mem_GW 135 (by decide +kernel) rfl), by decide +kernel, by decide +kernel, by decide +kernel, by decide⟩, (mem_GW 2065 (by decide +kernel) rfl), (mem_GW 84 (by decide +kernel) rfl)⟩
set_option maxRecDepth 20000 in
set_option maxHeartbeats 4000000 in
theorem c_X12_tells_j77 {k0 : K0} {G : Gx} {Qp : Option AV → Fx → Hp → Prop} (hM : MB (KM k0 0 0 Qp) G M_X12_tells 4) (v1 : Int) (v2 : Int) (v3 : Int) (v4 : Int) (v5 : Int) (h : Hp)   {P : ((Int × Hp) ⊕ ((Int × Hp) ⊕ (Hp))) → Prop} (hin : ∀ y : Int × Hp, P (.inl y) → ATk (KM k0 0 0 Qp) FN 0 0 M_X12_tells 4 [some (aR 150), some (aI v1), some (aI v2), some (aI v3), some (aI v4), some (aI y.1), none] [] y.2) (hout0 : ∀ y : Int × Hp, P (.inr (.inl y)) → ATk (KM k0 0 0 Qp) FN 0 0 M_X12_tells 43 [some (aR 150), none, none, some (aI v3), some (aI v4), some (aI y.1), none] [] y.2) (hout1 : ∀ y : Hp, P (.inr (.inr y)) → ATk (KM k0 0 0 Qp) FN 0 0 M_X12_tells 79 [none, none, none, none, none, none, none] [] y) (hh : OK (X12_tells_j77 v1 v2 v3 v4 v5 h) P) : ATk (KM k0 0 0 Qp) FN 0 0 M_X12_tells 77 [some (aR 150), some (aI v1), some (aI v2), some (aI v3), some (aI v4), some (aI v5), none] [] h := by
  unfold X12_tells_j77 at hh
  refine A_blk hM.1 1 (lv1 := [some (aR 150), some (aI v1), some (aI v2), some (aI v3), some (aI v4), some (aI (v5 + 1)), none]) (s1 := []) (h1 := h) rfl ?_
  refine A_go hM.1 rfl rfl ?_
  exact hin (v5 + 1, h) hh

set_option maxRecDepth 20000 in
set_option maxHeartbeats 4000000 in
theorem c_X12_tells_l4 {k0 : K0} {G : Gx} {Qp : Option AV → Fx → Hp → Prop} (hM : MB (KM k0 0 0 Qp) G M_X12_tells 4) (v1 : Int) (v2 : Int) (v3 : Int) (v4 : Int) (x : Int × Hp)   {P : ((Int × Hp) ⊕ ((Int × Hp) ⊕ (Hp))) → Prop} (hin : ∀ y : Int × Hp, P (.inl y) → ATk (KM k0 0 0 Qp) FN 0 0 M_X12_tells 4 [some (aR 150), some (aI v1), some (aI v2), some (aI v3), some (aI v4), some (aI y.1), none] [] y.2) (hout0 : ∀ y : Int × Hp, P (.inr (.inl y)) → ATk (KM k0 0 0 Qp) FN 0 0 M_X12_tells 43 [some (aR 150), none, none, some (aI v3), some (aI v4), some (aI y.1), none] [] y.2) (hout1 : ∀ y : Hp, P (.inr (.inr y)) → ATk (KM k0 0 0 Qp) FN 0 0 M_X12_tells 79 [none, none, none, none, none, none, none] [] y) (hh : OK (X12_tells_l4 v1 v2 v3 v4 x) P) : ATk (KM k0 0 0 Qp) FN 0 0 M_X12_tells 4 [some (aR 150), some (aI v1), some (aI v2), some (aI v3), some (aI v4), some (aI x.1), none] [] x.2 := by
  unfold X12_tells_l4 at hh
  refine A_blk hM.1 7 (lv1 := [some (aR 150), some (aI v1), some (aI v2), some (aI v3), some (aI v4), some (aI x.1), none]) (s1 := [aI v1, aR 166, aI (12 * v1), aI x.1]) (h1 := x.2) rfl ?_
  obtain ⟨g1, hh⟩ := OK_g hh
  refine A_ald hM.1 rfl (Or.inl ⟨rfl, rfl⟩) rfl (by decide) rfl g1 ?_
  refine A_blk hM.1 1 (lv1 := [some (aR 150), some (aI v1), some (aI v2), some (aI v3), some (aI v4), some (aI x.1), none]) (s1 := [aI ((12 * v1) + (x.2 166 ((w32 v1).toNat))), aI x.1]) (h1 := x.2) rfl ?_
  refine A_icmp hM.1 rfl rfl (fun hc => ?_) (fun hc => ?_)
  · replace hh := OK_t hh hc
    refine A_mask [false, false, false, false, false, false, true] (lv1 := [none, none, none, none, none, none, none]) rfl ?_
    exact hout1 x.2 hh
  · replace hh := OK_f hh hc
    refine A_blk hM.1 3 (lv1 := [some (aR 150), some (aI v1), some (aI v2), some (aI v3), some (aI v4), some (aI x.1), none]) (s1 := [aI x.1, aR 167]) (h1 := x.2) rfl ?_
    obtain ⟨g2, hh⟩ := OK_g hh
    refine A_ald hM.1 rfl (Or.inl ⟨rfl, rfl⟩) rfl (by decide) rfl g2 ?_
    refine A_blk hM.1 1 (lv1 := [some (aR 150), some (aI v1), some (aI v2), some (aI v3), some (aI v4), some (aI x.1), none]) (s1 := [aI v2, aI (x.2 167 ((w32 x.1).toNat))]) (h1 := x.2) rfl ?_
    refine A_icmp hM.1 rfl rfl (fun hc => ?_) (fun hc => ?_)
    · replace hh := OK_t hh hc
      refine A_blk hM.1 4 (lv1 := [some (aR 150), some (aI v1), some (aI v2), some (aI v3), some (aI v4), some (aI x.1), none]) (s1 := [aI x.1, aR 169, aR 150]) (h1 := x.2) rfl ?_
      obtain ⟨g3, hh⟩ := OK_g hh
      refine A_ald hM.1 rfl (Or.inl ⟨rfl, rfl⟩) rfl (by decide) rfl g3 ?_
      refine A_blk hM.1 3 (lv1 := [some (aR 150), some (aI v1), some (aI v2), some (aI v3), some (aI v4), some (aI x.1), none]) (s1 := [aI x.1, aR 170, aI (x.2 169 ((w32 x.1).toNat)), aR 150]) (h1 := x.2) rfl ?_
      obtain ⟨g4, hh⟩ := OK_g hh
      refine A_ald hM.1 rfl (Or.inl ⟨rfl, rfl⟩) rfl (by decide) rfl g4 ?_
      refine A_callV hM rfl rfl (mem_GW 2067 (by decide +kernel) rfl) mi_X12_reckons (As := [aI (x.2 169 ((w32 x.1).toNat)), aI (x.2 170 ((w32 x.1).toNat))]) (rest := []) (ct_X12_reckons (x.2 169 ((w32 x.1).toNat)) (x.2 170 ((w32 x.1).toNat)) x.2 (OK_bind hh)) (by decide) ⟨Nat.zero_le _, Nat.zero_le _⟩ rfl rfl (Nat.le_of_ble_eq_true rfl) (by decide) rfl (by decide) rfl (fun r F' h' hq1 => ?_)
      obtain ⟨rfl, rfl, hh⟩ := hq1
      obtain ⟨r5, rfl⟩ : ∃ z, z = h' := ⟨_, rfl⟩
      refine A_blk hM.1 3 (lv1 := [some (aR 150), some (aI v1), some (aI v2), some (aI v3), some (aI v4), some (aI x.1), none]) (s1 := [aI 0, aR 181]) (h1 := r5) rfl ?_
      obtain ⟨g6, hh⟩ := OK_g hh
      refine A_ald hM.1 rfl (Or.inr ⟨rfl, (Or.inr rfl)⟩) rfl (by decide) rfl g6 ?_
      refine A_ifc hM.1 rfl rfl (fun hc => ?_) (fun hc => ?_)
      · replace hh := OK_t hh hc
        exact c_X12_tells_j77 hM v1 v2 v3 v4 x.1 r5 hin hout0 hout1 hh
      · replace hh := OK_f hh hc
        refine A_blk hM.1 3 (lv1 := [some (aR 150), some (aI v1), some (aI v2), some (aI v3), some (aI v4), some (aI x.1), none]) (s1 := [aI 0, aR 180]) (h1 := r5) rfl ?_
        obtain ⟨g7, hh⟩ := OK_g hh
        refine A_ald hM.1 rfl (Or.inl ⟨rfl, rfl⟩) rfl (by decide) rfl g7 ?_
        refine A_blk hM.1 1 (lv1 := [some (aR 150), some (aI v1), some (aI v2), some (aI v3), some (aI v4), some (aI x.1), none]) (s1 := [aI 1, aI (r5 180 ((w32 0).toNat))]) (h1 := r5) rfl ?_
        refine A_icmp hM.1 rfl rfl (fun hc => ?_) (fun hc => ?_)
        · replace hh := OK_t hh hc
          refine A_mask [true, false, false, true, true, true, true] (lv1 := [some (aR 150), none, none, some (aI v3), some (aI v4), some (aI x.1), none]) rfl ?_
          exact hout0 (x.1, r5) hh
        · replace hh := OK_f hh hc
          refine A_go hM.1 rfl rfl ?_
          exact c_X12_tells_j77 hM v1 v2 v3 v4 x.1 r5 hin hout0 hout1 hh
    · replace hh := OK_f hh hc
      refine A_go hM.1 rfl rfl ?_
      exact c_X12_tells_j77 hM v1 v2 v3 v4 x.1 x.2 hin hout0 hout1 hh

set_option maxRecDepth 20000 in
set_option maxHeartbeats 4000000 in
theorem c_X12_tells_j64 {k0 : K0} {G : Gx} {Qp : Option AV → Fx → Hp → Prop} (hM : MB (KM k0 0 0 Qp) G M_X12_tells 4) (v3 : Int) (v4 : Int) (s0 : Int) (h : Hp)   {P : (Int × Hp) → Prop} (hq : ∀ z : Int × Hp, P z → Qp (some (aI z.1)) FN z.2) (hh : OK (X12_tells_j64 v3 v4 s0 h) P) : ATk (KM k0 0 0 Qp) FN 0 0 M_X12_tells 64 [none, none, none, some (aI v3), some (aI v4), none, none] [aI s0] h := by
  unfold X12_tells_j64 at hh
  refine A_blk hM.1 3 (lv1 := [none, none, none, some (aI v3), some (aI v4), none, some (aI s0)]) (s1 := [aI v3, aI s0]) (h1 := h) rfl ?_
  refine A_icmp hM.1 rfl rfl (fun hc => ?_) (fun hc => ?_)
  · replace hh := OK_t hh hc
    refine A_blk hM.1 2 (lv1 := [none, none, none, some (aI v3), some (aI v4), none, some (aI s0)]) (s1 := [aI v4, aI s0]) (h1 := h) rfl ?_
    refine A_icmp hM.1 rfl rfl (fun hc => ?_) (fun hc => ?_)
    · replace hh := OK_t hh hc
      refine A_blk hM.1 1 (lv1 := [none, none, none, some (aI v3), some (aI v4), none, some (aI s0)]) (s1 := [aI s0]) (h1 := h) rfl ?_
      exact A_reti hM.1 rfl rfl rfl (hq (s0, h) hh)
    · replace hh := OK_f hh hc
      refine A_blk hM.1 1 (lv1 := [none, none, none, some (aI v3), some (aI v4), none, some (aI s0)]) (s1 := [aI v4]) (h1 := h) rfl ?_
      refine A_go hM.1 rfl rfl ?_
      exact A_reti hM.1 rfl rfl rfl (hq (v4, h) hh)
  · replace hh := OK_f hh hc
    refine A_blk hM.1 1 (lv1 := [none, none, none, some (aI v3), some (aI v4), none, some (aI s0)]) (s1 := [aI v3]) (h1 := h) rfl ?_
    refine A_go hM.1 rfl rfl ?_
    exact A_reti hM.1 rfl rfl rfl (hq (v3, h) hh)

set_option maxRecDepth 20000 in
set_option maxHeartbeats 4000000 in
theorem c_X12_tells {k0 : K0} {G : Gx} {Qp : Option AV → Fx → Hp → Prop} (hM : MB (KM k0 0 0 Qp) G M_X12_tells 4) (v1 : Int) (v2 : Int) (v3 : Int) (v4 : Int) (h : Hp)   {P : (Int × Hp) → Prop} (hq : ∀ z : Int × Hp, P z → Qp (some (aI z.1)) FN z.2) (hh : OK (X12_tells v1 v2 v3 v4 h) P) : ATk (KM k0 0 0 Qp) FN 0 0 M_X12_tells 0 [some (aR 150), some (aI v1), some (aI v2), some (aI v3), some (aI v4), none, none] [] h := by
  unfold X12_tells at hh
  refine A_blk hM.1 4 (lv1 := [some (aR 150), some (aI v1), some (aI v2), some (aI v3), some (aI v4), some (aI (12 * v1)), none]) (s1 := []) (h1 := h) rfl ?_
  refine iter_ok (s := (12 * v1, h)) (Gp := fun z => ATk (KM k0 0 0 Qp) FN 0 0 M_X12_tells 4 [some (aR 150), some (aI v1), some (aI v2), some (aI v3), some (aI v4), some (aI z.1), none] [] z.2) (E := fun z => (∀ y, z = (.inl y) → ATk (KM k0 0 0 Qp) FN 0 0 M_X12_tells 43 [some (aR 150), none, none, some (aI v3), some (aI v4), some (aI y.1), none] [] y.2) ∧ (∀ y, z = (.inr y) → ATk (KM k0 0 0 Qp) FN 0 0 M_X12_tells 79 [none, none, none, none, none, none, none] [] y)) (fun z P1 g1 g2 g3 => c_X12_tells_l4 hM v1 v2 v3 v4 z g2 (fun y hy => (g3 (.inl y) hy).1 y rfl) (fun y hy => (g3 (.inr y) hy).2 y rfl) g1) (OK_bind hh) (fun x8 hh => ?_)
  refine ⟨fun y e => ?_, fun y e => ?_⟩
  · obtain ⟨y9, rfl⟩ : ∃ z, z = y := ⟨_, rfl⟩
    subst e
    refine A_blk hM.1 4 (lv1 := [some (aR 150), none, none, some (aI v3), some (aI v4), some (aI y9.1), none]) (s1 := [aI y9.1, aR 168, aR 150]) (h1 := y9.2) rfl ?_
    obtain ⟨g10, hh⟩ := OK_g hh
    refine A_ald hM.1 rfl (Or.inl ⟨rfl, rfl⟩) rfl (by decide) rfl g10 ?_
    refine A_blk hM.1 3 (lv1 := [some (aR 150), none, none, some (aI v3), some (aI v4), some (aI y9.1), none]) (s1 := [aI y9.1, aR 169, aI (y9.2 168 ((w32 y9.1).toNat)), aR 150]) (h1 := y9.2) rfl ?_
    obtain ⟨g11, hh⟩ := OK_g hh
    refine A_ald hM.1 rfl (Or.inl ⟨rfl, rfl⟩) rfl (by decide) rfl g11 ?_
    refine A_callV hM rfl rfl (mem_GW 2067 (by decide +kernel) rfl) mi_X12_reckons (As := [aI (y9.2 168 ((w32 y9.1).toNat)), aI (y9.2 169 ((w32 y9.1).toNat))]) (rest := []) (ct_X12_reckons (y9.2 168 ((w32 y9.1).toNat)) (y9.2 169 ((w32 y9.1).toNat)) y9.2 (OK_bind hh)) (by decide) ⟨Nat.zero_le _, Nat.zero_le _⟩ rfl rfl (Nat.le_of_ble_eq_true rfl) (by decide) rfl (by decide) rfl (fun r F' h' hq1 => ?_)
    obtain ⟨rfl, rfl, hh⟩ := hq1
    obtain ⟨r12, rfl⟩ : ∃ z, z = h' := ⟨_, rfl⟩
    refine A_blk hM.1 3 (lv1 := [some (aR 150), none, none, some (aI v3), some (aI v4), some (aI y9.1), none]) (s1 := [aI 0, aR 181]) (h1 := r12) rfl ?_
    obtain ⟨g13, hh⟩ := OK_g hh
    refine A_ald hM.1 rfl (Or.inr ⟨rfl, (Or.inr rfl)⟩) rfl (by decide) rfl g13 ?_
    refine A_ifc hM.1 rfl rfl (fun hc => ?_) (fun hc => ?_)
    · replace hh := OK_t hh hc
      refine A_blk hM.1 3 (lv1 := [some (aR 150), none, none, some (aI v3), some (aI v4), some (aI y9.1), none]) (s1 := [aI 0, aR 180]) (h1 := r12) rfl ?_
      obtain ⟨g14, hh⟩ := OK_g hh
      refine A_ald hM.1 rfl (Or.inl ⟨rfl, rfl⟩) rfl (by decide) rfl g14 ?_
      refine A_mask [false, true, true, true, true, false, true] (lv1 := [none, none, none, some (aI v3), some (aI v4), none, none]) rfl ?_
      exact c_X12_tells_j64 hM v3 v4 (r12 180 ((w32 0).toNat)) r12 hq hh
    · replace hh := OK_f hh hc
      refine A_blk hM.1 1 (lv1 := [some (aR 150), none, none, some (aI v3), some (aI v4), some (aI y9.1), none]) (s1 := [aI 0]) (h1 := r12) rfl ?_
      refine A_go hM.1 rfl rfl ?_
      refine A_mask [false, true, true, true, true, false, true] (lv1 := [none, none, none, some (aI v3), some (aI v4), none, none]) rfl ?_
      exact c_X12_tells_j64 hM v3 v4 0 r12 hq hh
  · obtain ⟨y15, rfl⟩ : ∃ z, z = y := ⟨_, rfl⟩
    subst e
    refine A_blk hM.1 1 (lv1 := [none, none, none, none, none, none, none]) (s1 := [aI 0]) (h1 := y15) rfl ?_
    exact A_reti hM.1 rfl rfl rfl (hq (0, y15) hh)

set_option maxRecDepth 20000 in
set_option maxHeartbeats 4000000 in
theorem ct_X12_tells {G : Gx} (v1 : Int) (v2 : Int) (v3 : Int) (v4 : Int) (h : Hp)   {P : (Int × Hp) → Prop} (hh : OK (X12_tells v1 v2 v3 v4 h) P) : CT G yX12_tells M_X12_tells 4 0 0 FN h [aR 150, aI v1, aI v2, aI v3, aI v4] (fun r F' h' => F' = FN ∧ ∃ z, r = some (aI z.1) ∧ h' = z.2 ∧ P z) :=
  CT.of (by decide +kernel) rfl (Nat.le_of_ble_eq_true rfl) k_X12_tells fun k0 _ _ hM => c_X12_tells hM v1 v2 v3 v4 h (fun z hz => ⟨rfl, z, rfl, rfl, hz⟩) hh

theorem mi_X12_stands : MIv yX12_stands M_X12_stands 5 := ⟨⟨(mem_GW 2058 (by decide +kernel) rfl), (mem_GW 135 (by decide +kernel) rfl), by decide +kernel, by decide +kernel, by decide +kernel, by decide⟩, (mem_GW 2057 (by decide +kernel) rfl), (mem_GW 82 (by decide +kernel) rfl)⟩
set_option maxRecDepth 20000 in
set_option maxHeartbeats 4000000 in
theorem c_X12_stands {k0 : K0} {G : Gx} {Qp : Option AV → Fx → Hp → Prop} (hM : MB (KM k0 0 0 Qp) G M_X12_stands 2) (v1 : Int) (v2 : Int) (v3 : Int) (v4 : Int) (v5 : Int) (h : Hp)   {P : Hp → Prop} (hq : ∀ z : Hp, P z → Qp none FN z) (hh : OK (X12_stands v1 v2 v3 v4 v5 h) P) : ATk (KM k0 0 0 Qp) FN 0 0 M_X12_stands 0 [some (aR 150), some (aI v1), some (aI v2), some (aI v3), some (aI v4), some (aI v5)] [] h := by
  unfold X12_stands at hh
  refine A_blk hM.1 1 (lv1 := [some (aR 150), some (aI v1), some (aI v2), some (aI v3), some (aI v4), some (aI v5)]) (s1 := [aR 150]) (h1 := h) rfl ?_
  refine A_callV hM rfl rfl (mem_GW 2059 (by decide +kernel) rfl) mi_X12_clears (As := []) (rest := []) (ct_X12_clears h (OK_bind hh)) (by decide) ⟨Nat.zero_le _, Nat.zero_le _⟩ rfl rfl (Nat.le_of_ble_eq_true rfl) (by decide) rfl (by decide) rfl (fun r F' h' hq1 => ?_)
  obtain ⟨rfl, rfl, hh⟩ := hq1
  obtain ⟨r1, rfl⟩ : ∃ z, z = h' := ⟨_, rfl⟩
  refine A_blk hM.1 8 (lv1 := [some (aR 150), some (aI v1), some (aI v2), some (aI v3), some (aI v4), some (aI v5)]) (s1 := [aI ((40 * v2) + v3), aR 157, aR 150]) (h1 := r1) rfl ?_
  obtain ⟨g2, hh⟩ := OK_g hh
  refine A_ald hM.1 rfl (Or.inl ⟨rfl, rfl⟩) rfl (by decide) rfl g2 ?_
  refine A_blk hM.1 15 (lv1 := [some (aR 150), some (aI v1), some (aI v2), some (aI v3), some (aI v4), some (aI v5)]) (s1 := [aI ((40 * v2) + v3), aR 158, aR 150]) (h1 := setH (setH (setH r1 150 54 (r1 157 ((w32 ((40 * v2) + v3)).toNat))) 150 46 v4) 150 48 v5) rfl ?_
  obtain ⟨g3, hh⟩ := OK_g hh
  refine A_ald hM.1 rfl (Or.inl ⟨rfl, rfl⟩) rfl (by decide) rfl g3 ?_
  refine A_blk hM.1 5 (lv1 := [some (aR 150), some (aI v1), some (aI v2), some (aI v3), some (aI v4), some (aI v5)]) (s1 := [aI 1000, aI (r1 150 6), aR 150]) (h1 := setH (setH (setH (setH r1 150 54 (r1 157 ((w32 ((40 * v2) + v3)).toNat))) 150 46 v4) 150 48 v5) 150 44 (r1 158 ((w32 ((40 * v2) + v3)).toNat))) rfl ?_
  obtain ⟨g4, hh⟩ := OK_g hh
  refine A_irem hM.1 rfl rfl g4 ?_
  refine A_blk hM.1 5 (lv1 := [some (aR 150), some (aI v1), some (aI v2), some (aI v3), some (aI v4), some (aI v5)]) (s1 := [aI v1, aR 159, aR 150]) (h1 := setH (setH (setH (setH (setH r1 150 54 (r1 157 ((w32 ((40 * v2) + v3)).toNat))) 150 46 v4) 150 48 v5) 150 44 (r1 158 ((w32 ((40 * v2) + v3)).toNat))) 150 55 (rem32 (r1 150 6) 1000)) rfl ?_
  obtain ⟨g5, hh⟩ := OK_g hh
  refine A_ald hM.1 rfl (Or.inl ⟨rfl, rfl⟩) rfl (by decide) rfl g5 ?_
  refine A_blk hM.1 7 (lv1 := [some (aR 150), some (aI v1), some (aI v2), some (aI v3), some (aI v4), some (aI v5)]) (s1 := []) (h1 := setH (setH (setH (setH (setH (setH (setH (setH r1 150 54 (r1 157 ((w32 ((40 * v2) + v3)).toNat))) 150 46 v4) 150 48 v5) 150 44 (r1 158 ((w32 ((40 * v2) + v3)).toNat))) 150 55 (rem32 (r1 150 6) 1000)) 150 56 (r1 159 ((w32 v1).toNat))) 150 47 v2) 150 49 v1) rfl ?_
  exact A_retv hM.1 rfl rfl rfl (hq (setH (setH (setH (setH (setH (setH (setH (setH r1 150 54 (r1 157 ((w32 ((40 * v2) + v3)).toNat))) 150 46 v4) 150 48 v5) 150 44 (r1 158 ((w32 ((40 * v2) + v3)).toNat))) 150 55 (rem32 (r1 150 6) 1000)) 150 56 (r1 159 ((w32 v1).toNat))) 150 47 v2) 150 49 v1) hh)

set_option maxRecDepth 20000 in
set_option maxHeartbeats 4000000 in
theorem ct_X12_stands {G : Gx} (v1 : Int) (v2 : Int) (v3 : Int) (v4 : Int) (v5 : Int) (h : Hp)   {P : Hp → Prop} (hh : OK (X12_stands v1 v2 v3 v4 v5 h) P) : CT G yX12_stands M_X12_stands 2 0 0 FN h [aR 150, aI v1, aI v2, aI v3, aI v4, aI v5] (fun r F' h' => F' = FN ∧ r = none ∧ P h') :=
  CT.of (by decide +kernel) rfl (Nat.le_of_ble_eq_true rfl) k_X12_stands fun k0 _ _ hM => c_X12_stands hM v1 v2 v3 v4 v5 h (fun z hz => ⟨rfl, rfl, hz⟩) hh

theorem mi_X12_quote : MIv yX12_quote M_X12_quote 5 := ⟨⟨(mem_GW 2049 (by decide +kernel) rfl), (mem_GW 135 (by decide +kernel) rfl), by decide +kernel, by decide +kernel, by decide +kernel, by decide⟩, (mem_GW 2047 (by decide +kernel) rfl), (mem_GW 2048 (by decide +kernel) rfl)⟩
set_option maxRecDepth 20000 in
set_option maxHeartbeats 4000000 in
theorem c_X12_quote_j155 {k0 : K0} {G : Gx} {Qp : Option AV → Fx → Hp → Prop} (hM : MB (KM k0 0 0 Qp) G M_X12_quote 5) (v1 : Int) (v2 : Int) (v3 : Int) (v4 : Int) (v5 : Int) (v6 : Int) (v7 : Int) (v8 : Int) (h : Hp)   {P : ((Int × Int × Int × Hp) ⊕ (Int × Int × Hp)) → Prop} (hin : ∀ y : Int × Int × Int × Hp, P (.inl y) → ATk (KM k0 0 0 Qp) FN 0 0 M_X12_quote 56 [some (aR 150), some (aI v1), some (aI v2), some (aI v3), some (aI v4), some (aI v5), some (aI y.1), some (aI y.2.1), some (aI y.2.2.1), none, none] [] y.2.2.2) (hout0 : ∀ y : Int × Int × Hp, P (.inr y) → ATk (KM k0 0 0 Qp) FN 0 0 M_X12_quote 157 [some (aR 150), some (aI v1), some (aI v2), some (aI v3), none, some (aI v5), some (aI y.1), some (aI y.2.1), none, none, none] [] y.2.2) (hh : OK (X12_quote_j155 v1 v2 v3 v4 v5 v6 v7 v8 h) P) : ATk (KM k0 0 0 Qp) FN 0 0 M_X12_quote 155 [some (aR 150), some (aI v1), some (aI v2), some (aI v3), some (aI v4), some (aI v5), some (aI v6), some (aI v7), some (aI v8), none, none] [] h := by
  unfold X12_quote_j155 at hh
  refine A_blk hM.1 1 (lv1 := [some (aR 150), some (aI v1), some (aI v2), some (aI v3), some (aI v4), some (aI v5), some (aI v6), some (aI v7), some (aI (v8 + 1)), none, none]) (s1 := []) (h1 := h) rfl ?_
  refine A_go hM.1 rfl rfl ?_
  exact hin (v6, v7, v8 + 1, h) hh

set_option maxRecDepth 20000 in
set_option maxHeartbeats 4000000 in
theorem c_X12_quote_j153 {k0 : K0} {G : Gx} {Qp : Option AV → Fx → Hp → Prop} (hM : MB (KM k0 0 0 Qp) G M_X12_quote 5) (v1 : Int) (v2 : Int) (v3 : Int) (v4 : Int) (v5 : Int) (v6 : Int) (v7 : Int) (v8 : Int) (s1 : Int) (s2 : Int) (h : Hp)   {P : ((Int × Int × Int × Hp) ⊕ (Int × Int × Hp)) → Prop} (hin : ∀ y : Int × Int × Int × Hp, P (.inl y) → ATk (KM k0 0 0 Qp) FN 0 0 M_X12_quote 56 [some (aR 150), some (aI v1), some (aI v2), some (aI v3), some (aI v4), some (aI v5), some (aI y.1), some (aI y.2.1), some (aI y.2.2.1), none, none] [] y.2.2.2) (hout0 : ∀ y : Int × Int × Hp, P (.inr y) → ATk (KM k0 0 0 Qp) FN 0 0 M_X12_quote 157 [some (aR 150), some (aI v1), some (aI v2), some (aI v3), none, some (aI v5), some (aI y.1), some (aI y.2.1), none, none, none] [] y.2.2) (hh : OK (X12_quote_j153 v1 v2 v3 v4 v5 v6 v7 v8 s1 s2 h) P) : ATk (KM k0 0 0 Qp) FN 0 0 M_X12_quote 153 [some (aR 150), some (aI v1), some (aI v2), some (aI v3), some (aI v4), some (aI v5), some (aI v6), some (aI v7), some (aI v8), none, none] [aI s2, aI s1, aR 165] h := by
  unfold X12_quote_j153 at hh
  obtain ⟨g15, hh⟩ := OK_g hh
  refine A_ast hM.1 rfl (Or.inl ⟨rfl, rfl, rfl⟩) rfl rfl rfl g15 ?_
  refine A_blk hM.1 1 (lv1 := [some (aR 150), some (aI v1), some (aI v2), some (aI v3), some (aI v4), some (aI v5), some (aI (v6 + 1)), some (aI v7), some (aI v8), none, none]) (s1 := []) (h1 := setH h 165 ((w32 s1).toNat) s2) rfl ?_
  exact c_X12_quote_j155 hM v1 v2 v3 v4 v5 (v6 + 1) v7 v8 (setH h 165 ((w32 s1).toNat) s2) hin hout0 hh

set_option maxRecDepth 20000 in
set_option maxHeartbeats 4000000 in
theorem c_X12_quote_j92 {k0 : K0} {G : Gx} {Qp : Option AV → Fx → Hp → Prop} (hM : MB (KM k0 0 0 Qp) G M_X12_quote 5) (v1 : Int) (v2 : Int) (v3 : Int) (v4 : Int) (v5 : Int) (v6 : Int) (v7 : Int) (v8 : Int) (h : Hp)   {P : ((Int × Int × Int × Hp) ⊕ (Int × Int × Hp)) → Prop} (hin : ∀ y : Int × Int × Int × Hp, P (.inl y) → ATk (KM k0 0 0 Qp) FN 0 0 M_X12_quote 56 [some (aR 150), some (aI v1), some (aI v2), some (aI v3), some (aI v4), some (aI v5), some (aI y.1), some (aI y.2.1), some (aI y.2.2.1), none, none] [] y.2.2.2) (hout0 : ∀ y : Int × Int × Hp, P (.inr y) → ATk (KM k0 0 0 Qp) FN 0 0 M_X12_quote 157 [some (aR 150), some (aI v1), some (aI v2), some (aI v3), none, some (aI v5), some (aI y.1), some (aI y.2.1), none, none, none] [] y.2.2) (hh : OK (X12_quote_j92 v1 v2 v3 v4 v5 v6 v7 v8 h) P) : ATk (KM k0 0 0 Qp) FN 0 0 M_X12_quote 92 [some (aR 150), some (aI v1), some (aI v2), some (aI v3), some (aI v4), some (aI v5), some (aI v6), some (aI v7), some (aI v8), none, none] [] h := by
  unfold X12_quote_j92 at hh
  refine A_blk hM.1 5 (lv1 := [some (aR 150), some (aI v1), some (aI v2), some (aI v3), some (aI v4), some (aI v5), some (aI v6), some (aI v7), some (aI v8), none, none]) (s1 := [aI 1000, aI 0, aI 100, aI v1, aR 150]) (h1 := h) rfl ?_
  refine A_callV hM rfl rfl (mem_GW 2063 (by decide +kernel) rfl) mi_X12_tells (As := [aI v1, aI 100, aI 0, aI 1000]) (rest := []) (ct_X12_tells v1 100 0 1000 h (OK_bind hh)) (by decide) ⟨Nat.zero_le _, Nat.zero_le _⟩ rfl rfl (Nat.le_of_ble_eq_true rfl) (by decide) rfl (by decide) rfl (fun r F' h' hq1 => ?_)
  obtain ⟨rfl, r10, rfl, e9, hh⟩ := hq1
  subst h'
  refine A_blk hM.1 7 (lv1 := [some (aR 150), some (aI v1), some (aI v2), some (aI v3), some (aI v4), some (aI v5), some (aI v6), some (aI v7), some (aI v8), some (aI r10.1), none]) (s1 := [aI 1000, aI 0, aI 99, aI v1, aR 150, aI r10.1]) (h1 := r10.2) rfl ?_
  refine A_callV hM rfl rfl (mem_GW 2063 (by decide +kernel) rfl) mi_X12_tells (As := [aI v1, aI 99, aI 0, aI 1000]) (rest := [aI r10.1]) (ct_X12_tells v1 99 0 1000 r10.2 (OK_bind hh)) (by decide) ⟨Nat.zero_le _, Nat.zero_le _⟩ rfl rfl (Nat.le_of_ble_eq_true rfl) (by decide) rfl (by decide) rfl (fun r F' h' hq1 => ?_)
  obtain ⟨rfl, r11, rfl, e9, hh⟩ := hq1
  subst h'
  refine A_blk hM.1 5 (lv1 := [some (aR 150), some (aI v1), some (aI v2), some (aI v3), some (aI v4), some (aI v5), some (aI v6), some (aI v7), some (aI v8), some (aI r10.1), some (aI (r10.1 + r11.1))]) (s1 := [aI 1000, aI (r11.2 150 6)]) (h1 := r11.2) rfl ?_
  obtain ⟨g12, hh⟩ := OK_g hh
  refine A_irem hM.1 rfl rfl g12 ?_
  refine A_blk hM.1 1 (lv1 := [some (aR 150), some (aI v1), some (aI v2), some (aI v3), some (aI v4), some (aI v5), some (aI v6), some (aI v7), some (aI v8), some (aI r10.1), some (aI (r10.1 + r11.1))]) (s1 := [aI r10.1, aI (rem32 (r11.2 150 6) 1000)]) (h1 := r11.2) rfl ?_
  refine A_icmp hM.1 rfl rfl (fun hc => ?_) (fun hc => ?_)
  · replace hh := OK_t hh hc
    refine A_mask [true, true, true, true, true, true, true, true, true, false, false] (lv1 := [some (aR 150), some (aI v1), some (aI v2), some (aI v3), some (aI v4), some (aI v5), some (aI v6), some (aI v7), some (aI v8), none, none]) rfl ?_
    exact c_X12_quote_j155 hM v1 v2 v3 v4 v5 v6 v7 v8 r11.2 hin hout0 hh
  · replace hh := OK_f hh hc
    refine A_blk hM.1 2 (lv1 := [some (aR 150), some (aI v1), some (aI v2), some (aI v3), some (aI v4), some (aI v5), some (aI v6), some (aI v7), some (aI v8), some (aI r10.1), some (aI (r10.1 + r11.1))]) (s1 := [aI 8, aI v6]) (h1 := r11.2) rfl ?_
    refine A_icmp hM.1 rfl rfl (fun hc => ?_) (fun hc => ?_)
    · replace hh := OK_t hh hc
      refine A_blk hM.1 11 (lv1 := [some (aR 150), some (aI v1), some (aI v2), some (aI v3), some (aI v4), some (aI v5), some (aI v6), some (aI v7), some (aI v8), some (aI r10.1), some (aI (r10.1 + r11.1))]) (s1 := [aI 1000, aI (r11.2 150 6), aI ((8 * (r11.2 150 5)) + v6), aR 165]) (h1 := r11.2) rfl ?_
      obtain ⟨g13, hh⟩ := OK_g hh
      refine A_irem hM.1 rfl rfl g13 ?_
      refine A_blk hM.1 1 (lv1 := [some (aR 150), some (aI v1), some (aI v2), some (aI v3), some (aI v4), some (aI v5), some (aI v6), some (aI v7), some (aI v8), some (aI r10.1), some (aI (r10.1 + r11.1))]) (s1 := [aI (r10.1 + r11.1), aI (rem32 (r11.2 150 6) 1000), aI ((8 * (r11.2 150 5)) + v6), aR 165]) (h1 := r11.2) rfl ?_
      refine A_icmp hM.1 rfl rfl (fun hc => ?_) (fun hc => ?_)
      · replace hh := OK_t hh hc
        refine A_blk hM.1 7 (lv1 := [some (aR 150), some (aI v1), some (aI v2), some (aI v3), some (aI v4), some (aI v5), some (aI v6), some (aI v7), some (aI v8), some (aI r10.1), some (aI (r10.1 + r11.1))]) (s1 := [aI ((40 * v2) + v8), aR 157, aI ((8 * (r11.2 150 5)) + v6), aR 165]) (h1 := r11.2) rfl ?_
        obtain ⟨g14, hh⟩ := OK_g hh
        refine A_ald hM.1 rfl (Or.inl ⟨rfl, rfl⟩) rfl (by decide) rfl g14 ?_
        refine A_mask [true, true, true, true, true, true, true, true, true, false, false] (lv1 := [some (aR 150), some (aI v1), some (aI v2), some (aI v3), some (aI v4), some (aI v5), some (aI v6), some (aI v7), some (aI v8), none, none]) rfl ?_
        exact c_X12_quote_j153 hM v1 v2 v3 v4 v5 v6 v7 v8 ((8 * (r11.2 150 5)) + v6) (r11.2 157 ((w32 ((40 * v2) + v8)).toNat)) r11.2 hin hout0 hh
      · replace hh := OK_f hh hc
        refine A_blk hM.1 7 (lv1 := [some (aR 150), some (aI v1), some (aI v2), some (aI v3), some (aI v4), some (aI v5), some (aI v6), some (aI v7), some (aI v8), some (aI r10.1), some (aI (r10.1 + r11.1))]) (s1 := [aI ((40 * v2) + v8), aR 157, aI ((8 * (r11.2 150 5)) + v6), aR 165]) (h1 := r11.2) rfl ?_
        obtain ⟨g16, hh⟩ := OK_g hh
        refine A_ald hM.1 rfl (Or.inl ⟨rfl, rfl⟩) rfl (by decide) rfl g16 ?_
        refine A_blk hM.1 3 (lv1 := [some (aR 150), some (aI v1), some (aI v2), some (aI v3), some (aI v4), some (aI v5), some (aI v6), some (aI v7), some (aI v8), some (aI r10.1), some (aI (r10.1 + r11.1))]) (s1 := [aI 64, aI ((r11.2 157 ((w32 ((40 * v2) + v8)).toNat)) + 1), aI ((8 * (r11.2 150 5)) + v6), aR 165]) (h1 := r11.2) rfl ?_
        obtain ⟨g17, hh⟩ := OK_g hh
        refine A_irem hM.1 rfl rfl g17 ?_
        refine A_go hM.1 rfl rfl ?_
        refine A_mask [true, true, true, true, true, true, true, true, true, false, false] (lv1 := [some (aR 150), some (aI v1), some (aI v2), some (aI v3), some (aI v4), some (aI v5), some (aI v6), some (aI v7), some (aI v8), none, none]) rfl ?_
        exact c_X12_quote_j153 hM v1 v2 v3 v4 v5 v6 v7 v8 ((8 * (r11.2 150 5)) + v6) (rem32 ((r11.2 157 ((w32 ((40 * v2) + v8)).toNat)) + 1) 64) r11.2 hin hout0 hh
    · replace hh := OK_f hh hc
      refine A_go hM.1 rfl rfl ?_
      refine A_mask [true, true, true, true, true, true, true, true, true, false, false] (lv1 := [some (aR 150), some (aI v1), some (aI v2), some (aI v3), some (aI v4), some (aI v5), some (aI v6), some (aI v7), some (aI v8), none, none]) rfl ?_
      exact c_X12_quote_j155 hM v1 v2 v3 v4 v5 v6 v7 v8 r11.2 hin hout0 hh

set_option maxRecDepth 20000 in
set_option maxHeartbeats 4000000 in
theorem c_X12_quote_l56 {k0 : K0} {G : Gx} {Qp : Option AV → Fx → Hp → Prop} (hM : MB (KM k0 0 0 Qp) G M_X12_quote 5) (v1 : Int) (v2 : Int) (v3 : Int) (v4 : Int) (v5 : Int) (x : Int × Int × Int × Hp)   {P : ((Int × Int × Int × Hp) ⊕ (Int × Int × Hp)) → Prop} (hin : ∀ y : Int × Int × Int × Hp, P (.inl y) → ATk (KM k0 0 0 Qp) FN 0 0 M_X12_quote 56 [some (aR 150), some (aI v1), some (aI v2), some (aI v3), some (aI v4), some (aI v5), some (aI y.1), some (aI y.2.1), some (aI y.2.2.1), none, none] [] y.2.2.2) (hout0 : ∀ y : Int × Int × Hp, P (.inr y) → ATk (KM k0 0 0 Qp) FN 0 0 M_X12_quote 157 [some (aR 150), some (aI v1), some (aI v2), some (aI v3), none, some (aI v5), some (aI y.1), some (aI y.2.1), none, none, none] [] y.2.2) (hh : OK (X12_quote_l56 v1 v2 v3 v4 v5 x) P) : ATk (KM k0 0 0 Qp) FN 0 0 M_X12_quote 56 [some (aR 150), some (aI v1), some (aI v2), some (aI v3), some (aI v4), some (aI v5), some (aI x.1), some (aI x.2.1), some (aI x.2.2.1), none, none] [] x.2.2.2 := by
  unfold X12_quote_l56 at hh
  refine A_blk hM.1 2 (lv1 := [some (aR 150), some (aI v1), some (aI v2), some (aI v3), some (aI v4), some (aI v5), some (aI x.1), some (aI x.2.1), some (aI x.2.2.1), none, none]) (s1 := [aI v4, aI x.2.2.1]) (h1 := x.2.2.2) rfl ?_
  refine A_icmp hM.1 rfl rfl (fun hc => ?_) (fun hc => ?_)
  · replace hh := OK_t hh hc
    refine A_mask [true, true, true, true, false, true, true, true, false, true, true] (lv1 := [some (aR 150), some (aI v1), some (aI v2), some (aI v3), none, some (aI v5), some (aI x.1), some (aI x.2.1), none, none, none]) rfl ?_
    exact hout0 (x.1, x.2.1, x.2.2.2) hh
  · replace hh := OK_f hh hc
    refine A_blk hM.1 8 (lv1 := [some (aR 150), some (aI v1), some (aI v2), some (aI v3), some (aI v4), some (aI v5), some (aI x.1), some (aI x.2.1), some (aI x.2.2.1), none, none]) (s1 := [aI 65536, aI ((25173 * (x.2.2.2 150 6)) + 13849), aR 150]) (h1 := x.2.2.2) rfl ?_
    obtain ⟨g8, hh⟩ := OK_g hh
    refine A_irem hM.1 rfl rfl g8 ?_
    refine A_blk hM.1 13 (lv1 := [some (aR 150), some (aI v1), some (aI v2), some (aI v3), some (aI v4), some (aI v5), some (aI x.1), some (aI x.2.1), some (aI x.2.2.1), none, none]) (s1 := [aI ((v4 - v3) + 1), aI (x.2.2.1 - v3), aI x.2.2.1, aI v2, aI v1, aR 150]) (h1 := setH x.2.2.2 150 6 (rem32 ((25173 * (x.2.2.2 150 6)) + 13849) 65536)) rfl ?_
    refine A_callV hM rfl rfl (mem_GW 2055 (by decide +kernel) rfl) mi_X12_stands (As := [aI v1, aI v2, aI x.2.2.1, aI (x.2.2.1 - v3), aI ((v4 - v3) + 1)]) (rest := []) (ct_X12_stands v1 v2 x.2.2.1 (x.2.2.1 - v3) ((v4 - v3) + 1) (setH x.2.2.2 150 6 (rem32 ((25173 * (x.2.2.2 150 6)) + 13849) 65536)) (OK_bind hh)) (by decide) ⟨Nat.zero_le _, Nat.zero_le _⟩ rfl rfl (Nat.le_of_ble_eq_true rfl) (by decide) rfl (by decide) rfl (fun r F' h' hq1 => ?_)
    obtain ⟨rfl, rfl, hh⟩ := hq1
    obtain ⟨r9, rfl⟩ : ∃ z, z = h' := ⟨_, rfl⟩
    refine A_blk hM.1 2 (lv1 := [some (aR 150), some (aI v1), some (aI v2), some (aI v3), some (aI v4), some (aI v5), some (aI x.1), some (aI x.2.1), some (aI x.2.2.1), none, none]) (s1 := [aI v3, aI x.2.2.1]) (h1 := r9) rfl ?_
    refine A_icmp hM.1 rfl rfl (fun hc => ?_) (fun hc => ?_)
    · replace hh := OK_t hh hc
      exact c_X12_quote_j92 hM v1 v2 v3 v4 v5 x.1 x.2.1 x.2.2.1 r9 hin hout0 hh
    · replace hh := OK_f hh hc
      refine A_blk hM.1 5 (lv1 := [some (aR 150), some (aI v1), some (aI v2), some (aI v3), some (aI v4), some (aI v5), some (aI x.1), some (aI x.2.1), some (aI x.2.2.1), none, none]) (s1 := [aI 9, aI (-9), aI 110, aI v1, aR 150]) (h1 := r9) rfl ?_
      refine A_callV hM rfl rfl (mem_GW 2063 (by decide +kernel) rfl) mi_X12_tells (As := [aI v1, aI 110, aI (-9), aI 9]) (rest := []) (ct_X12_tells v1 110 (-9) 9 r9 (OK_bind hh)) (by decide) ⟨Nat.zero_le _, Nat.zero_le _⟩ rfl rfl (Nat.le_of_ble_eq_true rfl) (by decide) rfl (by decide) rfl (fun r F' h' hq1 => ?_)
      obtain ⟨rfl, r18, rfl, e9, hh⟩ := hq1
      subst h'
      refine A_blk hM.1 1 (lv1 := [some (aR 150), some (aI v1), some (aI v2), some (aI v3), some (aI v4), some (aI v5), some (aI x.1), some (aI r18.1), some (aI x.2.2.1), none, none]) (s1 := []) (h1 := r18.2) rfl ?_
      exact c_X12_quote_j92 hM v1 v2 v3 v4 v5 x.1 r18.1 x.2.2.1 r18.2 hin hout0 hh

set_option maxRecDepth 20000 in
set_option maxHeartbeats 4000000 in
theorem c_X12_quote_j186 {k0 : K0} {G : Gx} {Qp : Option AV → Fx → Hp → Prop} (hM : MB (KM k0 0 0 Qp) G M_X12_quote 5) (v5 : Int) (v6 : Int) (s1 : Int) (s2 : Int) (s3 : Int) (h : Hp)   {P : (Int × Hp) → Prop} (hq : ∀ z : Int × Hp, P z → Qp (some (aI z.1)) FN z.2) (hh : OK (X12_quote_j186 v5 v6 s1 s2 s3 h) P) : ATk (KM k0 0 0 Qp) FN 0 0 M_X12_quote 186 [some (aR 150), none, none, none, none, some (aI v5), some (aI v6), none, none, none, none] [aI s3, aI s2, aI s1, aR 150] h := by
  unfold X12_quote_j186 at hh
  refine A_blk hM.1 2 (lv1 := [some (aR 150), none, none, none, none, some (aI v5), some (aI v6), none, none, none, none]) (s1 := [aI v6, aI v5, aI s3, aI s2, aI s1, aR 150]) (h1 := h) rfl ?_
  refine A_callV hM rfl rfl (mem_GW 1928 (by decide +kernel) rfl) mi_X12_comes (As := [aI s1, aI s2, aI s3, aI v5, aI v6]) (rest := []) (ct_X12_comes s1 s2 s3 v5 v6 h (OK_bind hh)) (by decide) ⟨Nat.zero_le _, Nat.zero_le _⟩ rfl rfl (Nat.le_of_ble_eq_true rfl) (by decide) rfl (by decide) rfl (fun r F' h' hq1 => ?_)
  obtain ⟨rfl, rfl, hh⟩ := hq1
  obtain ⟨r21, rfl⟩ : ∃ z, z = h' := ⟨_, rfl⟩
  refine A_blk hM.1 4 (lv1 := [some (aR 150), none, none, none, none, some (aI v5), some (aI v6), none, none, none, none]) (s1 := [aI ((r21 150 5) - 1)]) (h1 := r21) rfl ?_
  exact A_reti hM.1 rfl rfl rfl (hq ((r21 150 5) - 1, r21) hh)

set_option maxRecDepth 20000 in
set_option maxHeartbeats 4000000 in
theorem c_X12_quote {k0 : K0} {G : Gx} {Qp : Option AV → Fx → Hp → Prop} (hM : MB (KM k0 0 0 Qp) G M_X12_quote 5) (v1 : Int) (v2 : Int) (v3 : Int) (v4 : Int) (v5 : Int) (h : Hp)   {P : (Int × Hp) → Prop} (hq : ∀ z : Int × Hp, P z → Qp (some (aI z.1)) FN z.2) (hh : OK (X12_quote v1 v2 v3 v4 v5 h) P) : ATk (KM k0 0 0 Qp) FN 0 0 M_X12_quote 0 [some (aR 150), some (aI v1), some (aI v2), some (aI v3), some (aI v4), some (aI v5), none, none, none, none, none] [] h := by
  unfold X12_quote at hh
  refine A_blk hM.1 3 (lv1 := [some (aR 150), some (aI v1), some (aI v2), some (aI v3), some (aI v4), some (aI v5), none, none, none, none, none]) (s1 := [aI 40, aI (h 150 5)]) (h1 := h) rfl ?_
  refine A_icmp hM.1 rfl rfl (fun hc => ?_) (fun hc => ?_)
  · replace hh := OK_t hh hc
    refine A_blk hM.1 1 (lv1 := [some (aR 150), some (aI v1), some (aI v2), some (aI v3), some (aI v4), some (aI v5), none, none, none, none, none]) (s1 := [aI (-1)]) (h1 := h) rfl ?_
    exact A_reti hM.1 rfl rfl rfl (hq ((-1), h) hh)
  · replace hh := OK_f hh hc
    refine A_blk hM.1 2 (lv1 := [some (aR 150), some (aI v1), some (aI v2), some (aI v3), some (aI v4), some (aI v5), none, none, none, none, none]) (s1 := [aI v1, aR 150]) (h1 := h) rfl ?_
    refine A_callV hM rfl rfl (mem_GW 1922 (by decide +kernel) rfl) mi_X12_isWriter (As := [aI v1]) (rest := []) (ct_X12_isWriter v1 h (OK_bind hh)) (by decide) ⟨Nat.zero_le _, Nat.zero_le _⟩ rfl rfl (Nat.le_of_ble_eq_true rfl) (by decide) rfl (by decide) rfl (fun r F' h' hq1 => ?_)
    obtain ⟨rfl, r1, rfl, e9, hh⟩ := hq1
    subst h'
    refine A_ifc hM.1 rfl rfl (fun hc => ?_) (fun hc => ?_)
    · replace hh := OK_t hh hc
      refine A_blk hM.1 1 (lv1 := [some (aR 150), some (aI v1), some (aI v2), some (aI v3), some (aI v4), some (aI v5), none, none, none, none, none]) (s1 := [aI (-1)]) (h1 := h) rfl ?_
      exact A_reti hM.1 rfl rfl rfl (hq ((-1), h) hh)
    · replace hh := OK_f hh hc
      refine A_blk hM.1 2 (lv1 := [some (aR 150), some (aI v1), some (aI v2), some (aI v3), some (aI v4), some (aI v5), none, none, none, none, none]) (s1 := [aI v2, aR 150]) (h1 := h) rfl ?_
      refine A_callV hM rfl rfl (mem_GW 2050 (by decide +kernel) rfl) mi_X12_isLeft (As := [aI v2]) (rest := []) (ct_X12_isLeft v2 h (OK_bind hh)) (by decide) ⟨Nat.zero_le _, Nat.zero_le _⟩ rfl rfl (Nat.le_of_ble_eq_true rfl) (by decide) rfl (by decide) rfl (fun r F' h' hq1 => ?_)
      obtain ⟨rfl, r2, rfl, e9, hh⟩ := hq1
      subst h'
      refine A_ifc hM.1 rfl rfl (fun hc => ?_) (fun hc => ?_)
      · replace hh := OK_t hh hc
        refine A_blk hM.1 1 (lv1 := [some (aR 150), some (aI v1), some (aI v2), some (aI v3), some (aI v4), some (aI v5), none, none, none, none, none]) (s1 := [aI (-1)]) (h1 := h) rfl ?_
        exact A_reti hM.1 rfl rfl rfl (hq ((-1), h) hh)
      · replace hh := OK_f hh hc
        refine A_blk hM.1 6 (lv1 := [some (aR 150), some (aI v1), some (aI v2), some (aI v3), some (aI v4), some (aI v5), none, none, none, none, none]) (s1 := [aI v2, aR 156, aL 0, aL (w32 v3)]) (h1 := h) rfl ?_
        obtain ⟨g3, hh⟩ := OK_g hh
        refine A_ald hM.1 rfl (Or.inl ⟨rfl, rfl⟩) rfl (by decide) rfl g3 ?_
        refine A_blk hM.1 3 (lv1 := [some (aR 150), some (aI v1), some (aI v2), some (aI v3), some (aI v4), some (aI v5), none, none, none, none, none]) (s1 := [aL (w32 ((h 156 ((w32 v2).toNat)) - 1)), aL 0, aL (w32 v3)]) (h1 := h) rfl ?_
        refine A_callS hM rfl rfl (mem_GW 1879 (by decide +kernel) rfl) mi_X12_lies ms_X12_lies (As := [aL (w32 v3), aL 0, aL (w32 ((h 156 ((w32 v2).toNat)) - 1))]) (rest := []) (ct_X12_lies (w32 v3) 0 (w32 ((h 156 ((w32 v2).toNat)) - 1)) h (OK_bind hh)) (by decide) ⟨Nat.zero_le _, Nat.zero_le _⟩ rfl rfl (Nat.le_of_ble_eq_true rfl) (fun r F' h' hq1 => ?_)
        obtain ⟨rfl, r4, rfl, e9, hh⟩ := hq1
        subst h'
        refine A_ifc hM.1 rfl rfl (fun hc => ?_) (fun hc => ?_)
        · replace hh := OK_t hh hc
          refine A_blk hM.1 1 (lv1 := [some (aR 150), some (aI v1), some (aI v2), some (aI v3), some (aI v4), some (aI v5), none, none, none, none, none]) (s1 := [aI (-1)]) (h1 := h) rfl ?_
          exact A_reti hM.1 rfl rfl rfl (hq ((-1), h) hh)
        · replace hh := OK_f hh hc
          refine A_blk hM.1 7 (lv1 := [some (aR 150), some (aI v1), some (aI v2), some (aI v3), some (aI v4), some (aI v5), none, none, none, none, none]) (s1 := [aI v2, aR 156, aL (w32 v3), aL (w32 v4)]) (h1 := h) rfl ?_
          obtain ⟨g5, hh⟩ := OK_g hh
          refine A_ald hM.1 rfl (Or.inl ⟨rfl, rfl⟩) rfl (by decide) rfl g5 ?_
          refine A_blk hM.1 3 (lv1 := [some (aR 150), some (aI v1), some (aI v2), some (aI v3), some (aI v4), some (aI v5), none, none, none, none, none]) (s1 := [aL (w32 ((h 156 ((w32 v2).toNat)) - 1)), aL (w32 v3), aL (w32 v4)]) (h1 := h) rfl ?_
          refine A_callS hM rfl rfl (mem_GW 1879 (by decide +kernel) rfl) mi_X12_lies ms_X12_lies (As := [aL (w32 v4), aL (w32 v3), aL (w32 ((h 156 ((w32 v2).toNat)) - 1))]) (rest := []) (ct_X12_lies (w32 v4) (w32 v3) (w32 ((h 156 ((w32 v2).toNat)) - 1)) h (OK_bind hh)) (by decide) ⟨Nat.zero_le _, Nat.zero_le _⟩ rfl rfl (Nat.le_of_ble_eq_true rfl) (fun r F' h' hq1 => ?_)
          obtain ⟨rfl, r6, rfl, e9, hh⟩ := hq1
          subst h'
          refine A_ifc hM.1 rfl rfl (fun hc => ?_) (fun hc => ?_)
          · replace hh := OK_t hh hc
            refine A_blk hM.1 1 (lv1 := [some (aR 150), some (aI v1), some (aI v2), some (aI v3), some (aI v4), some (aI v5), none, none, none, none, none]) (s1 := [aI (-1)]) (h1 := h) rfl ?_
            exact A_reti hM.1 rfl rfl rfl (hq ((-1), h) hh)
          · replace hh := OK_f hh hc
            refine A_blk hM.1 4 (lv1 := [some (aR 150), some (aI v1), some (aI v2), some (aI v3), some (aI v4), some (aI v5), none, none, none, none, none]) (s1 := [aI 11, aI (v4 - v3)]) (h1 := h) rfl ?_
            refine A_icmp hM.1 rfl rfl (fun hc => ?_) (fun hc => ?_)
            · replace hh := OK_t hh hc
              refine A_blk hM.1 1 (lv1 := [some (aR 150), some (aI v1), some (aI v2), some (aI v3), some (aI v4), some (aI v5), none, none, none, none, none]) (s1 := [aI (-1)]) (h1 := h) rfl ?_
              exact A_reti hM.1 rfl rfl rfl (hq ((-1), h) hh)
            · replace hh := OK_f hh hc
              refine A_blk hM.1 4 (lv1 := [some (aR 150), some (aI v1), some (aI v2), some (aI v3), some (aI v4), some (aI v5), none, none, none, none, none]) (s1 := [aL 9, aL 0, aL (w32 v5)]) (h1 := h) rfl ?_
              refine A_callS hM rfl rfl (mem_GW 1879 (by decide +kernel) rfl) mi_X12_lies ms_X12_lies (As := [aL (w32 v5), aL 0, aL 9]) (rest := []) (ct_X12_lies (w32 v5) 0 9 h (OK_bind hh)) (by decide) ⟨Nat.zero_le _, Nat.zero_le _⟩ rfl rfl (Nat.le_of_ble_eq_true rfl) (fun r F' h' hq1 => ?_)
              obtain ⟨rfl, r7, rfl, e9, hh⟩ := hq1
              subst h'
              refine A_ifc hM.1 rfl rfl (fun hc => ?_) (fun hc => ?_)
              · replace hh := OK_t hh hc
                refine A_blk hM.1 6 (lv1 := [some (aR 150), some (aI v1), some (aI v2), some (aI v3), some (aI v4), some (aI v5), some (aI 0), some (aI 0), some (aI v3), none, none]) (s1 := []) (h1 := h) rfl ?_
                refine iter_ok (s := (0, 0, v3, h)) (Gp := fun z => ATk (KM k0 0 0 Qp) FN 0 0 M_X12_quote 56 [some (aR 150), some (aI v1), some (aI v2), some (aI v3), some (aI v4), some (aI v5), some (aI z.1), some (aI z.2.1), some (aI z.2.2.1), none, none] [] z.2.2.2) (E := fun z => ATk (KM k0 0 0 Qp) FN 0 0 M_X12_quote 157 [some (aR 150), some (aI v1), some (aI v2), some (aI v3), none, some (aI v5), some (aI z.1), some (aI z.2.1), none, none, none] [] z.2.2) (fun z P1 g1 g2 g3 => c_X12_quote_l56 hM v1 v2 v3 v4 v5 z g2 g3 g1) (OK_bind hh) (fun x19 hh => ?_)
                refine A_blk hM.1 1 (lv1 := [some (aR 150), some (aI v1), some (aI v2), some (aI v3), none, some (aI v5), some (aI x19.1), some (aI x19.2.1), none, none, none]) (s1 := [aI x19.1]) (h1 := x19.2.2) rfl ?_
                refine A_ifc hM.1 rfl rfl (fun hc => ?_) (fun hc => ?_)
                · replace hh := OK_t hh hc
                  refine A_blk hM.1 7 (lv1 := [some (aR 150), some (aI v1), some (aI v2), some (aI v3), none, some (aI v5), some (aI x19.1), some (aI x19.2.1), none, none, none]) (s1 := [aI ((40 * v2) + v3), aR 158]) (h1 := x19.2.2) rfl ?_
                  obtain ⟨g20, hh⟩ := OK_g hh
                  refine A_ald hM.1 rfl (Or.inl ⟨rfl, rfl⟩) rfl (by decide) rfl g20 ?_
                  refine A_blk hM.1 8 (lv1 := [some (aR 150), some (aI v1), some (aI v2), some (aI v3), none, some (aI v5), some (aI x19.1), some (aI x19.2.1), some (aI ((x19.2.2 158 ((w32 ((40 * v2) + v3)).toNat)) + x19.2.1)), none, none]) (s1 := [aI 1, aI ((x19.2.2 158 ((w32 ((40 * v2) + v3)).toNat)) + x19.2.1), aI v2, aI v1, aR 150]) (h1 := x19.2.2) rfl ?_
                  refine A_icmp hM.1 rfl rfl (fun hc => ?_) (fun hc => ?_)
                  · replace hh := OK_t hh hc
                    refine A_blk hM.1 2 (lv1 := [some (aR 150), some (aI v1), some (aI v2), some (aI v3), none, some (aI v5), some (aI x19.1), some (aI x19.2.1), some (aI ((x19.2.2 158 ((w32 ((40 * v2) + v3)).toNat)) + x19.2.1)), none, none]) (s1 := [aI 40, aI ((x19.2.2 158 ((w32 ((40 * v2) + v3)).toNat)) + x19.2.1), aI v2, aI v1, aR 150]) (h1 := x19.2.2) rfl ?_
                    refine A_icmp hM.1 rfl rfl (fun hc => ?_) (fun hc => ?_)
                    · replace hh := OK_t hh hc
                      refine A_blk hM.1 1 (lv1 := [some (aR 150), some (aI v1), some (aI v2), some (aI v3), none, some (aI v5), some (aI x19.1), some (aI x19.2.1), some (aI ((x19.2.2 158 ((w32 ((40 * v2) + v3)).toNat)) + x19.2.1)), none, none]) (s1 := [aI ((x19.2.2 158 ((w32 ((40 * v2) + v3)).toNat)) + x19.2.1), aI v2, aI v1, aR 150]) (h1 := x19.2.2) rfl ?_
                      refine A_mask [true, false, false, false, true, true, true, false, false, true, true] (lv1 := [some (aR 150), none, none, none, none, some (aI v5), some (aI x19.1), none, none, none, none]) rfl ?_
                      exact c_X12_quote_j186 hM v5 x19.1 v1 v2 ((x19.2.2 158 ((w32 ((40 * v2) + v3)).toNat)) + x19.2.1) x19.2.2 hq hh
                    · replace hh := OK_f hh hc
                      refine A_blk hM.1 1 (lv1 := [some (aR 150), some (aI v1), some (aI v2), some (aI v3), none, some (aI v5), some (aI x19.1), some (aI x19.2.1), some (aI ((x19.2.2 158 ((w32 ((40 * v2) + v3)).toNat)) + x19.2.1)), none, none]) (s1 := [aI 40, aI v2, aI v1, aR 150]) (h1 := x19.2.2) rfl ?_
                      refine A_go hM.1 rfl rfl ?_
                      refine A_mask [true, false, false, false, true, true, true, false, false, true, true] (lv1 := [some (aR 150), none, none, none, none, some (aI v5), some (aI x19.1), none, none, none, none]) rfl ?_
                      exact c_X12_quote_j186 hM v5 x19.1 v1 v2 40 x19.2.2 hq hh
                  · replace hh := OK_f hh hc
                    refine A_blk hM.1 1 (lv1 := [some (aR 150), some (aI v1), some (aI v2), some (aI v3), none, some (aI v5), some (aI x19.1), some (aI x19.2.1), some (aI ((x19.2.2 158 ((w32 ((40 * v2) + v3)).toNat)) + x19.2.1)), none, none]) (s1 := [aI 1, aI v2, aI v1, aR 150]) (h1 := x19.2.2) rfl ?_
                    refine A_go hM.1 rfl rfl ?_
                    refine A_mask [true, false, false, false, true, true, true, false, false, true, true] (lv1 := [some (aR 150), none, none, none, none, some (aI v5), some (aI x19.1), none, none, none, none]) rfl ?_
                    exact c_X12_quote_j186 hM v5 x19.1 v1 v2 1 x19.2.2 hq hh
                · replace hh := OK_f hh hc
                  refine A_blk hM.1 1 (lv1 := [some (aR 150), some (aI v1), some (aI v2), some (aI v3), none, some (aI v5), some (aI x19.1), some (aI x19.2.1), none, none, none]) (s1 := [aI (-2)]) (h1 := x19.2.2) rfl ?_
                  exact A_reti hM.1 rfl rfl rfl (hq ((-2), x19.2.2) hh)
              · replace hh := OK_f hh hc
                refine A_blk hM.1 1 (lv1 := [some (aR 150), some (aI v1), some (aI v2), some (aI v3), some (aI v4), some (aI v5), none, none, none, none, none]) (s1 := [aI (-1)]) (h1 := h) rfl ?_
                exact A_reti hM.1 rfl rfl rfl (hq ((-1), h) hh)

set_option maxRecDepth 20000 in
set_option maxHeartbeats 4000000 in
theorem ct_X12_quote {G : Gx} (v1 : Int) (v2 : Int) (v3 : Int) (v4 : Int) (v5 : Int) (h : Hp)   {P : (Int × Hp) → Prop} (hh : OK (X12_quote v1 v2 v3 v4 v5 h) P) : CT G yX12_quote M_X12_quote 5 0 0 FN h [aR 150, aI v1, aI v2, aI v3, aI v4, aI v5] (fun r F' h' => F' = FN ∧ ∃ z, r = some (aI z.1) ∧ h' = z.2 ∧ P z) :=
  CT.of (by decide +kernel) rfl (Nat.le_of_ble_eq_true rfl) k_X12_quote fun k0 _ _ hM => c_X12_quote hM v1 v2 v3 v4 v5 h (fun z hz => ⟨rfl, z, rfl, rfl, hz⟩) hh

theorem mi_X12_bitIs : MIv yX12_bitIs M_X12_bitIs 2 := ⟨⟨(mem_GW 2085 (by decide +kernel) rfl), (mem_GW 135 (by decide +kernel) rfl), by decide +kernel, by decide +kernel, by decide +kernel, by decide⟩, (mem_GW 2083 (by decide +kernel) rfl), (mem_GW 2084 (by decide +kernel) rfl)⟩
set_option maxRecDepth 20000 in
set_option maxHeartbeats 4000000 in
theorem c_X12_bitIs {k0 : K0} {G : Gx} {Qp : Option AV → Fx → Hp → Prop} (hM : MB (KM k0 0 0 Qp) G M_X12_bitIs 3) (v1 : Int) (v2 : Int) (h : Hp)   {P : Int → Prop} (hq : ∀ z : Int, P z → Qp (some (aI z)) FN h) (hh : OK (X12_bitIs v1 v2 h) P) : ATk (KM k0 0 0 Qp) FN 0 0 M_X12_bitIs 0 [some (aR 150), some (aI v1), some (aI v2)] [] h := by
  unfold X12_bitIs at hh
  refine A_blk hM.1 2 (lv1 := [some (aR 150), some (aI v1), some (aI v2)]) (s1 := [aI v1, aR 150]) (h1 := h) rfl ?_
  refine A_callV hM rfl rfl (mem_GW 2086 (by decide +kernel) rfl) mi_X12_isBit (As := [aI v1]) (rest := []) (ct_X12_isBit v1 h (OK_bind hh)) (by decide) ⟨Nat.zero_le _, Nat.zero_le _⟩ rfl rfl (Nat.le_of_ble_eq_true rfl) (by decide) rfl (by decide) rfl (fun r F' h' hq1 => ?_)
  obtain ⟨rfl, r1, rfl, e9, hh⟩ := hq1
  subst h'
  refine A_ifc hM.1 rfl rfl (fun hc => ?_) (fun hc => ?_)
  · replace hh := OK_t hh hc
    refine A_blk hM.1 8 (lv1 := [some (aR 150), some (aI v1), some (aI v2)]) (s1 := [aI v1, aR 164, aL 0, aL (w32 (v2 - 10))]) (h1 := h) rfl ?_
    obtain ⟨g2, hh⟩ := OK_g hh
    refine A_ald hM.1 rfl (Or.inl ⟨rfl, rfl⟩) rfl (by decide) rfl g2 ?_
    refine A_blk hM.1 3 (lv1 := [some (aR 150), some (aI v1), some (aI v2)]) (s1 := [aL (w32 ((h 164 ((w32 v1).toNat)) - 1)), aL 0, aL (w32 (v2 - 10))]) (h1 := h) rfl ?_
    refine A_callS hM rfl rfl (mem_GW 1879 (by decide +kernel) rfl) mi_X12_lies ms_X12_lies (As := [aL (w32 (v2 - 10)), aL 0, aL (w32 ((h 164 ((w32 v1).toNat)) - 1))]) (rest := []) (ct_X12_lies (w32 (v2 - 10)) 0 (w32 ((h 164 ((w32 v1).toNat)) - 1)) h (OK_bind hh)) (by decide) ⟨Nat.zero_le _, Nat.zero_le _⟩ rfl rfl (Nat.le_of_ble_eq_true rfl) (fun r F' h' hq1 => ?_)
    obtain ⟨rfl, r3, rfl, e9, hh⟩ := hq1
    subst h'
    refine A_ifc hM.1 rfl rfl (fun hc => ?_) (fun hc => ?_)
    · replace hh := OK_t hh hc
      refine A_blk hM.1 1 (lv1 := [some (aR 150), some (aI v1), some (aI v2)]) (s1 := [aI v2]) (h1 := h) rfl ?_
      refine A_tsw hM.1 rfl [(0, 33), (1, 38), (2, 43), (3, 48), (4, 53)] 58 (by decide +kernel) ?_
      refine ⟨fun hc => ?_, fun hc => ?_⟩
      · replace hh := OK_t hh hc
        refine A_blk hM.1 3 (lv1 := [some (aR 150), some (aI v1), some (aI v2)]) (s1 := [aI v1, aR 160]) (h1 := h) rfl ?_
        obtain ⟨g4, hh⟩ := OK_g hh
        refine A_ald hM.1 rfl (Or.inl ⟨rfl, rfl⟩) rfl (by decide) rfl g4 ?_
        exact A_reti hM.1 rfl rfl rfl (hq (h 160 ((w32 v1).toNat)) hh)
      replace hh := OK_f hh hc
      refine ⟨fun hc => ?_, fun hc => ?_⟩
      · replace hh := OK_t hh hc
        refine A_blk hM.1 3 (lv1 := [some (aR 150), some (aI v1), some (aI v2)]) (s1 := [aI v1, aR 161]) (h1 := h) rfl ?_
        obtain ⟨g5, hh⟩ := OK_g hh
        refine A_ald hM.1 rfl (Or.inl ⟨rfl, rfl⟩) rfl (by decide) rfl g5 ?_
        exact A_reti hM.1 rfl rfl rfl (hq (h 161 ((w32 v1).toNat)) hh)
      replace hh := OK_f hh hc
      refine ⟨fun hc => ?_, fun hc => ?_⟩
      · replace hh := OK_t hh hc
        refine A_blk hM.1 3 (lv1 := [some (aR 150), some (aI v1), some (aI v2)]) (s1 := [aI v1, aR 162]) (h1 := h) rfl ?_
        obtain ⟨g6, hh⟩ := OK_g hh
        refine A_ald hM.1 rfl (Or.inl ⟨rfl, rfl⟩) rfl (by decide) rfl g6 ?_
        exact A_reti hM.1 rfl rfl rfl (hq (h 162 ((w32 v1).toNat)) hh)
      replace hh := OK_f hh hc
      refine ⟨fun hc => ?_, fun hc => ?_⟩
      · replace hh := OK_t hh hc
        refine A_blk hM.1 3 (lv1 := [some (aR 150), some (aI v1), some (aI v2)]) (s1 := [aI v1, aR 163]) (h1 := h) rfl ?_
        obtain ⟨g7, hh⟩ := OK_g hh
        refine A_ald hM.1 rfl (Or.inl ⟨rfl, rfl⟩) rfl (by decide) rfl g7 ?_
        exact A_reti hM.1 rfl rfl rfl (hq (h 163 ((w32 v1).toNat)) hh)
      replace hh := OK_f hh hc
      refine ⟨fun hc => ?_, fun hc => ?_⟩
      · replace hh := OK_t hh hc
        refine A_blk hM.1 3 (lv1 := [some (aR 150), some (aI v1), some (aI v2)]) (s1 := [aI v1, aR 164]) (h1 := h) rfl ?_
        obtain ⟨g8, hh⟩ := OK_g hh
        refine A_ald hM.1 rfl (Or.inl ⟨rfl, rfl⟩) rfl (by decide) rfl g8 ?_
        exact A_reti hM.1 rfl rfl rfl (hq (h 164 ((w32 v1).toNat)) hh)
      replace hh := OK_f hh hc
      refine A_blk hM.1 1 (lv1 := [some (aR 150), some (aI v1), some (aI v2)]) (s1 := [aI (-1)]) (h1 := h) rfl ?_
      exact A_reti hM.1 rfl rfl rfl (hq (-1) hh)
    · replace hh := OK_f hh hc
      refine A_blk hM.1 9 (lv1 := [some (aR 150), some (aI v1), some (aI v2)]) (s1 := [aI (((8 * v1) + v2) - 10), aR 165]) (h1 := h) rfl ?_
      obtain ⟨g9, hh⟩ := OK_g hh
      refine A_ald hM.1 rfl (Or.inl ⟨rfl, rfl⟩) rfl (by decide) rfl g9 ?_
      exact A_reti hM.1 rfl rfl rfl (hq (h 165 ((w32 (((8 * v1) + v2) - 10)).toNat)) hh)
  · replace hh := OK_f hh hc
    refine A_blk hM.1 1 (lv1 := [some (aR 150), some (aI v1), some (aI v2)]) (s1 := [aI (-1)]) (h1 := h) rfl ?_
    exact A_reti hM.1 rfl rfl rfl (hq (-1) hh)

set_option maxRecDepth 20000 in
set_option maxHeartbeats 4000000 in
theorem ct_X12_bitIs {G : Gx} (v1 : Int) (v2 : Int) (h : Hp)   {P : Int → Prop} (hh : OK (X12_bitIs v1 v2 h) P) : CT G yX12_bitIs M_X12_bitIs 3 0 0 FN h [aR 150, aI v1, aI v2] (fun r F' h' => F' = FN ∧ ∃ z, r = some (aI z) ∧ h' = h ∧ P z) :=
  CT.of (by decide +kernel) rfl (Nat.le_of_ble_eq_true rfl) k_X12_bitIs fun k0 _ _ hM => c_X12_bitIs hM v1 v2 h (fun z hz => ⟨rfl, z, rfl, rfl, hz⟩) hh

theorem mi_X12_starts : MIv yX12_starts M_X12_starts 1 := ⟨⟨(mem_GW 2101 (by decide +kernel) rfl), (mem_GW 135 (by decide +kernel) rfl), by decide +kernel, by decide +kernel, by decide +kernel, by decide⟩, (mem_GW 2100 (by decide +kernel) rfl), (mem_GW 90 (by decide +kernel) rfl)⟩
set_option maxRecDepth 20000 in
set_option maxHeartbeats 4000000 in
theorem c_X12_starts_l2 {k0 : K0} {G : Gx} {Qp : Option AV → Fx → Hp → Prop} (hM : MB (KM k0 0 0 Qp) G M_X12_starts 1) (v1 : Int) (x : Int × Hp)   {P : ((Int × Hp) ⊕ (Hp)) → Prop} (hin : ∀ y : Int × Hp, P (.inl y) → ATk (KM k0 0 0 Qp) FN 0 0 M_X12_starts 2 [some (aR 150), some (aI v1), some (aI y.1)] [] y.2) (hout0 : ∀ y : Hp, P (.inr y) → ATk (KM k0 0 0 Qp) FN 0 0 M_X12_starts 15 [none, none, none] [] y) (hh : OK (X12_starts_l2 v1 x) P) : ATk (KM k0 0 0 Qp) FN 0 0 M_X12_starts 2 [some (aR 150), some (aI v1), some (aI x.1)] [] x.2 := by
  unfold X12_starts_l2 at hh
  refine A_blk hM.1 4 (lv1 := [some (aR 150), some (aI v1), some (aI x.1)]) (s1 := [aI v1, aR 164, aI x.1]) (h1 := x.2) rfl ?_
  obtain ⟨g1, hh⟩ := OK_g hh
  refine A_ald hM.1 rfl (Or.inl ⟨rfl, rfl⟩) rfl (by decide) rfl g1 ?_
  refine A_icmp hM.1 rfl rfl (fun hc => ?_) (fun hc => ?_)
  · replace hh := OK_t hh hc
    refine A_mask [false, false, false] (lv1 := [none, none, none]) rfl ?_
    exact hout0 x.2 hh
  · replace hh := OK_f hh hc
    refine A_blk hM.1 4 (lv1 := [some (aR 150), some (aI v1), some (aI x.1)]) (s1 := [aI x.1, aI x.1, aR 182]) (h1 := x.2) rfl ?_
    obtain ⟨g2, hh⟩ := OK_g hh
    refine A_ast hM.1 rfl (Or.inl ⟨rfl, rfl, rfl⟩) rfl rfl rfl g2 ?_
    refine A_blk hM.1 1 (lv1 := [some (aR 150), some (aI v1), some (aI (x.1 + 1))]) (s1 := []) (h1 := setH x.2 182 ((w32 x.1).toNat) x.1) rfl ?_
    refine A_go hM.1 rfl rfl ?_
    exact hin (x.1 + 1, setH x.2 182 ((w32 x.1).toNat) x.1) hh

set_option maxRecDepth 20000 in
set_option maxHeartbeats 4000000 in
theorem c_X12_starts {k0 : K0} {G : Gx} {Qp : Option AV → Fx → Hp → Prop} (hM : MB (KM k0 0 0 Qp) G M_X12_starts 1) (v1 : Int) (h : Hp)   {P : Hp → Prop} (hq : ∀ z : Hp, P z → Qp none FN z) (hh : OK (X12_starts v1 h) P) : ATk (KM k0 0 0 Qp) FN 0 0 M_X12_starts 0 [some (aR 150), some (aI v1), none] [] h := by
  unfold X12_starts at hh
  refine A_blk hM.1 2 (lv1 := [some (aR 150), some (aI v1), some (aI 0)]) (s1 := []) (h1 := h) rfl ?_
  refine iter_ok (s := (0, h)) (Gp := fun z => ATk (KM k0 0 0 Qp) FN 0 0 M_X12_starts 2 [some (aR 150), some (aI v1), some (aI z.1)] [] z.2) (E := fun z => ATk (KM k0 0 0 Qp) FN 0 0 M_X12_starts 15 [none, none, none] [] z) (fun z P1 g1 g2 g3 => c_X12_starts_l2 hM v1 z g2 g3 g1) (OK_bind hh) (fun x3 hh => ?_)
  exact A_retv hM.1 rfl rfl rfl (hq x3 hh)

set_option maxRecDepth 20000 in
set_option maxHeartbeats 4000000 in
theorem ct_X12_starts {G : Gx} (v1 : Int) (h : Hp)   {P : Hp → Prop} (hh : OK (X12_starts v1 h) P) : CT G yX12_starts M_X12_starts 1 0 0 FN h [aR 150, aI v1] (fun r F' h' => F' = FN ∧ r = none ∧ P h') :=
  CT.of (by decide +kernel) rfl (Nat.le_of_ble_eq_true rfl) k_X12_starts fun k0 _ _ hM => c_X12_starts hM v1 h (fun z hz => ⟨rfl, rfl, hz⟩) hh

theorem mi_X12_goesOn : MIv yX12_goesOn M_X12_goesOn 2 := ⟨⟨(mem_GW 2105 (by decide +kernel) rfl), (mem_GW 135 (by decide +kernel) rfl), by decide +kernel, by decide +kernel, by decide +kernel, by decide⟩, (mem_GW 2104 (by decide +kernel) rfl), (mem_GW 91 (by decide +kernel) rfl)⟩
set_option maxRecDepth 20000 in
set_option maxHeartbeats 4000000 in
theorem c_X12_goesOn_j80 {k0 : K0} {G : Gx} {Qp : Option AV → Fx → Hp → Prop} (hM : MB (KM k0 0 0 Qp) G M_X12_goesOn 1) (v1 : Int) (v2 : Int) (v3 : Int) (v4 : Int) (s1 : Int) (s2 : Int) (h : Hp)   {P : ((Int × Int × Hp) ⊕ (Hp)) → Prop} (hin : ∀ y : Int × Int × Hp, P (.inl y) → ATk (KM k0 0 0 Qp) FN 0 0 M_X12_goesOn 15 [some (aR 150), some (aI v1), some (aI v2), some (aI y.1), some (aI y.2.1), none, none] [] y.2.2) (hout0 : ∀ y : Hp, P (.inr y) → ATk (KM k0 0 0 Qp) FN 0 0 M_X12_goesOn 83 [none, none, none, none, none, none, none] [] y) (hh : OK (X12_goesOn_j80 v1 v2 v3 v4 s1 s2 h) P) : ATk (KM k0 0 0 Qp) FN 0 0 M_X12_goesOn 80 [some (aR 150), some (aI v1), some (aI v2), some (aI v3), some (aI v4), none, none] [aI s2, aI s1, aR 182] h := by
  unfold X12_goesOn_j80 at hh
  obtain ⟨g10, hh⟩ := OK_g hh
  refine A_ast hM.1 rfl (Or.inl ⟨rfl, rfl, rfl⟩) rfl rfl rfl g10 ?_
  refine A_blk hM.1 1 (lv1 := [some (aR 150), some (aI v1), some (aI v2), some (aI v3), some (aI (v4 + 1)), none, none]) (s1 := []) (h1 := setH h 182 ((w32 s1).toNat) s2) rfl ?_
  refine A_go hM.1 rfl rfl ?_
  exact hin (v3, v4 + 1, setH h 182 ((w32 s1).toNat) s2) hh

set_option maxRecDepth 20000 in
set_option maxHeartbeats 4000000 in
theorem c_X12_goesOn_j70 {k0 : K0} {G : Gx} {Qp : Option AV → Fx → Hp → Prop} (hM : MB (KM k0 0 0 Qp) G M_X12_goesOn 1) (v1 : Int) (v2 : Int) (v3 : Int) (v4 : Int) (v5 : Int) (s0 : Int) (h : Hp)   {P : ((Int × Int × Hp) ⊕ (Hp)) → Prop} (hin : ∀ y : Int × Int × Hp, P (.inl y) → ATk (KM k0 0 0 Qp) FN 0 0 M_X12_goesOn 15 [some (aR 150), some (aI v1), some (aI v2), some (aI y.1), some (aI y.2.1), none, none] [] y.2.2) (hout0 : ∀ y : Hp, P (.inr y) → ATk (KM k0 0 0 Qp) FN 0 0 M_X12_goesOn 83 [none, none, none, none, none, none, none] [] y) (hh : OK (X12_goesOn_j70 v1 v2 v3 v4 v5 s0 h) P) : ATk (KM k0 0 0 Qp) FN 0 0 M_X12_goesOn 70 [some (aR 150), some (aI v1), some (aI v2), some (aI v3), some (aI v4), some (aI v5), none] [aI s0] h := by
  unfold X12_goesOn_j70 at hh
  refine A_blk hM.1 6 (lv1 := [some (aR 150), some (aI v1), some (aI v2), some (aI v3), some (aI v4), some (aI v5), some (aI s0)]) (s1 := [aI s0, aI v5, aI v4, aR 182]) (h1 := h) rfl ?_
  refine A_icmp hM.1 rfl rfl (fun hc => ?_) (fun hc => ?_)
  · replace hh := OK_t hh hc
    refine A_blk hM.1 1 (lv1 := [some (aR 150), some (aI v1), some (aI v2), some (aI v3), some (aI v4), some (aI v5), some (aI s0)]) (s1 := [aI s0, aI v4, aR 182]) (h1 := h) rfl ?_
    refine A_mask [true, true, true, true, true, false, false] (lv1 := [some (aR 150), some (aI v1), some (aI v2), some (aI v3), some (aI v4), none, none]) rfl ?_
    exact c_X12_goesOn_j80 hM v1 v2 v3 v4 v4 s0 h hin hout0 hh
  · replace hh := OK_f hh hc
    refine A_blk hM.1 1 (lv1 := [some (aR 150), some (aI v1), some (aI v2), some (aI v3), some (aI v4), some (aI v5), some (aI s0)]) (s1 := [aI v5, aI v4, aR 182]) (h1 := h) rfl ?_
    refine A_go hM.1 rfl rfl ?_
    refine A_mask [true, true, true, true, true, false, false] (lv1 := [some (aR 150), some (aI v1), some (aI v2), some (aI v3), some (aI v4), none, none]) rfl ?_
    exact c_X12_goesOn_j80 hM v1 v2 v3 v4 v4 v5 h hin hout0 hh

set_option maxRecDepth 20000 in
set_option maxHeartbeats 4000000 in
theorem c_X12_goesOn_j37 {k0 : K0} {G : Gx} {Qp : Option AV → Fx → Hp → Prop} (hM : MB (KM k0 0 0 Qp) G M_X12_goesOn 1) (v1 : Int) (v2 : Int) (v4 : Int) (s0 : Int) (s1 : Int) (h : Hp)   {P : ((Int × Int × Hp) ⊕ (Hp)) → Prop} (hin : ∀ y : Int × Int × Hp, P (.inl y) → ATk (KM k0 0 0 Qp) FN 0 0 M_X12_goesOn 15 [some (aR 150), some (aI v1), some (aI v2), some (aI y.1), some (aI y.2.1), none, none] [] y.2.2) (hout0 : ∀ y : Hp, P (.inr y) → ATk (KM k0 0 0 Qp) FN 0 0 M_X12_goesOn 83 [none, none, none, none, none, none, none] [] y) (hh : OK (X12_goesOn_j37 v1 v2 v4 s0 s1 h) P) : ATk (KM k0 0 0 Qp) FN 0 0 M_X12_goesOn 37 [some (aR 150), some (aI v1), some (aI v2), none, some (aI v4), none, none] [aI s1, aI s0] h := by
  unfold X12_goesOn_j37 at hh
  refine A_blk hM.1 5 (lv1 := [some (aR 150), some (aI v1), some (aI v2), none, some (aI v4), some (aI (s0 + s1)), none]) (s1 := [aI v4, aR 182]) (h1 := h) rfl ?_
  obtain ⟨g6, hh⟩ := OK_g hh
  refine A_ald hM.1 rfl (Or.inl ⟨rfl, rfl⟩) rfl (by decide) rfl g6 ?_
  refine A_blk hM.1 4 (lv1 := [some (aR 150), some (aI v1), some (aI v2), some (aI (h 182 ((w32 v4).toNat))), some (aI v4), some (aI (s0 + s1)), none]) (s1 := [aI v4, aR 182]) (h1 := h) rfl ?_
  obtain ⟨g7, hh⟩ := OK_g hh
  refine A_ald hM.1 rfl (Or.inl ⟨rfl, rfl⟩) rfl (by decide) rfl g7 ?_
  refine A_blk hM.1 5 (lv1 := [some (aR 150), some (aI v1), some (aI v2), some (aI (h 182 ((w32 v4).toNat))), some (aI v4), some (aI (s0 + s1)), none]) (s1 := [aI (v4 - 1), aR 182, aI (h 182 ((w32 v4).toNat))]) (h1 := h) rfl ?_
  obtain ⟨g8, hh⟩ := OK_g hh
  refine A_ald hM.1 rfl (Or.inl ⟨rfl, rfl⟩) rfl (by decide) rfl g8 ?_
  refine A_icmp hM.1 rfl rfl (fun hc => ?_) (fun hc => ?_)
  · replace hh := OK_t hh hc
    refine A_blk hM.1 5 (lv1 := [some (aR 150), some (aI v1), some (aI v2), some (aI (h 182 ((w32 v4).toNat))), some (aI v4), some (aI (s0 + s1)), none]) (s1 := [aI (v4 - 1), aR 182]) (h1 := h) rfl ?_
    obtain ⟨g9, hh⟩ := OK_g hh
    refine A_ald hM.1 rfl (Or.inl ⟨rfl, rfl⟩) rfl (by decide) rfl g9 ?_
    refine A_blk hM.1 2 (lv1 := [some (aR 150), some (aI v1), some (aI v2), some (aI (h 182 ((w32 v4).toNat))), some (aI v4), some (aI (s0 + s1)), none]) (s1 := [aI ((h 182 ((w32 (v4 - 1)).toNat)) + 1)]) (h1 := h) rfl ?_
    exact c_X12_goesOn_j70 hM v1 v2 (h 182 ((w32 v4).toNat)) v4 (s0 + s1) ((h 182 ((w32 (v4 - 1)).toNat)) + 1) h hin hout0 hh
  · replace hh := OK_f hh hc
    refine A_blk hM.1 3 (lv1 := [some (aR 150), some (aI v1), some (aI v2), some (aI (h 182 ((w32 v4).toNat))), some (aI v4), some (aI (s0 + s1)), none]) (s1 := [aI v4, aR 182]) (h1 := h) rfl ?_
    obtain ⟨g11, hh⟩ := OK_g hh
    refine A_ald hM.1 rfl (Or.inl ⟨rfl, rfl⟩) rfl (by decide) rfl g11 ?_
    refine A_blk hM.1 2 (lv1 := [some (aR 150), some (aI v1), some (aI v2), some (aI (h 182 ((w32 v4).toNat))), some (aI v4), some (aI (s0 + s1)), none]) (s1 := [aI ((h 182 ((w32 v4).toNat)) + 1)]) (h1 := h) rfl ?_
    refine A_go hM.1 rfl rfl ?_
    exact c_X12_goesOn_j70 hM v1 v2 (h 182 ((w32 v4).toNat)) v4 (s0 + s1) ((h 182 ((w32 v4).toNat)) + 1) h hin hout0 hh

set_option maxRecDepth 20000 in
set_option maxHeartbeats 4000000 in
theorem c_X12_goesOn_l15 {k0 : K0} {G : Gx} {Qp : Option AV → Fx → Hp → Prop} (hM : MB (KM k0 0 0 Qp) G M_X12_goesOn 1) (v1 : Int) (v2 : Int) (x : Int × Int × Hp)   {P : ((Int × Int × Hp) ⊕ (Hp)) → Prop} (hin : ∀ y : Int × Int × Hp, P (.inl y) → ATk (KM k0 0 0 Qp) FN 0 0 M_X12_goesOn 15 [some (aR 150), some (aI v1), some (aI v2), some (aI y.1), some (aI y.2.1), none, none] [] y.2.2) (hout0 : ∀ y : Hp, P (.inr y) → ATk (KM k0 0 0 Qp) FN 0 0 M_X12_goesOn 83 [none, none, none, none, none, none, none] [] y) (hh : OK (X12_goesOn_l15 v1 v2 x) P) : ATk (KM k0 0 0 Qp) FN 0 0 M_X12_goesOn 15 [some (aR 150), some (aI v1), some (aI v2), some (aI x.1), some (aI x.2.1), none, none] [] x.2.2 := by
  unfold X12_goesOn_l15 at hh
  refine A_blk hM.1 4 (lv1 := [some (aR 150), some (aI v1), some (aI v2), some (aI x.1), some (aI x.2.1), none, none]) (s1 := [aI v1, aR 164, aI x.2.1]) (h1 := x.2.2) rfl ?_
  obtain ⟨g4, hh⟩ := OK_g hh
  refine A_ald hM.1 rfl (Or.inl ⟨rfl, rfl⟩) rfl (by decide) rfl g4 ?_
  refine A_icmp hM.1 rfl rfl (fun hc => ?_) (fun hc => ?_)
  · replace hh := OK_t hh hc
    refine A_mask [false, false, false, false, false, true, true] (lv1 := [none, none, none, none, none, none, none]) rfl ?_
    exact hout0 x.2.2 hh
  · replace hh := OK_f hh hc
    refine A_blk hM.1 10 (lv1 := [some (aR 150), some (aI v1), some (aI v2), some (aI x.1), some (aI x.2.1), none, none]) (s1 := [aI (((8 * v1) + x.2.1) - 1), aR 165, aI x.1]) (h1 := x.2.2) rfl ?_
    obtain ⟨g5, hh⟩ := OK_g hh
    refine A_ald hM.1 rfl (Or.inl ⟨rfl, rfl⟩) rfl (by decide) rfl g5 ?_
    refine A_blk hM.1 1 (lv1 := [some (aR 150), some (aI v1), some (aI v2), some (aI x.1), some (aI x.2.1), none, none]) (s1 := [aI v2, aI (x.2.2 165 ((w32 (((8 * v1) + x.2.1) - 1)).toNat)), aI x.1]) (h1 := x.2.2) rfl ?_
    refine A_icmp hM.1 rfl rfl (fun hc => ?_) (fun hc => ?_)
    · replace hh := OK_t hh hc
      refine A_blk hM.1 1 (lv1 := [some (aR 150), some (aI v1), some (aI v2), some (aI x.1), some (aI x.2.1), none, none]) (s1 := [aI 1, aI x.1]) (h1 := x.2.2) rfl ?_
      refine A_mask [true, true, true, false, true, true, true] (lv1 := [some (aR 150), some (aI v1), some (aI v2), none, some (aI x.2.1), none, none]) rfl ?_
      exact c_X12_goesOn_j37 hM v1 v2 x.2.1 x.1 1 x.2.2 hin hout0 hh
    · replace hh := OK_f hh hc
      refine A_blk hM.1 1 (lv1 := [some (aR 150), some (aI v1), some (aI v2), some (aI x.1), some (aI x.2.1), none, none]) (s1 := [aI 0, aI x.1]) (h1 := x.2.2) rfl ?_
      refine A_go hM.1 rfl rfl ?_
      refine A_mask [true, true, true, false, true, true, true] (lv1 := [some (aR 150), some (aI v1), some (aI v2), none, some (aI x.2.1), none, none]) rfl ?_
      exact c_X12_goesOn_j37 hM v1 v2 x.2.1 x.1 0 x.2.2 hin hout0 hh

set_option maxRecDepth 20000 in
set_option maxHeartbeats 4000000 in
theorem c_X12_goesOn {k0 : K0} {G : Gx} {Qp : Option AV → Fx → Hp → Prop} (hM : MB (KM k0 0 0 Qp) G M_X12_goesOn 1) (v1 : Int) (v2 : Int) (h : Hp)   {P : Hp → Prop} (hq : ∀ z : Hp, P z → Qp none FN z) (hh : OK (X12_goesOn v1 v2 h) P) : ATk (KM k0 0 0 Qp) FN 0 0 M_X12_goesOn 0 [some (aR 150), some (aI v1), some (aI v2), none, none, none, none] [] h := by
  unfold X12_goesOn at hh
  refine A_blk hM.1 3 (lv1 := [some (aR 150), some (aI v1), some (aI v2), none, none, none, none]) (s1 := [aI 0, aR 182]) (h1 := h) rfl ?_
  obtain ⟨g1, hh⟩ := OK_g hh
  refine A_ald hM.1 rfl (Or.inl ⟨rfl, rfl⟩) rfl (by decide) rfl g1 ?_
  refine A_blk hM.1 5 (lv1 := [some (aR 150), some (aI v1), some (aI v2), some (aI (h 182 ((w32 0).toNat))), none, none, none]) (s1 := [aI 0, aR 182, aI 0, aR 182]) (h1 := h) rfl ?_
  obtain ⟨g2, hh⟩ := OK_g hh
  refine A_ald hM.1 rfl (Or.inl ⟨rfl, rfl⟩) rfl (by decide) rfl g2 ?_
  refine A_blk hM.1 2 (lv1 := [some (aR 150), some (aI v1), some (aI v2), some (aI (h 182 ((w32 0).toNat))), none, none, none]) (s1 := [aI ((h 182 ((w32 0).toNat)) + 1), aI 0, aR 182]) (h1 := h) rfl ?_
  obtain ⟨g3, hh⟩ := OK_g hh
  refine A_ast hM.1 rfl (Or.inl ⟨rfl, rfl, rfl⟩) rfl rfl rfl g3 ?_
  refine A_blk hM.1 2 (lv1 := [some (aR 150), some (aI v1), some (aI v2), some (aI (h 182 ((w32 0).toNat))), some (aI 1), none, none]) (s1 := []) (h1 := setH h 182 ((w32 0).toNat) ((h 182 ((w32 0).toNat)) + 1)) rfl ?_
  refine iter_ok (s := (h 182 ((w32 0).toNat), 1, setH h 182 ((w32 0).toNat) ((h 182 ((w32 0).toNat)) + 1))) (Gp := fun z => ATk (KM k0 0 0 Qp) FN 0 0 M_X12_goesOn 15 [some (aR 150), some (aI v1), some (aI v2), some (aI z.1), some (aI z.2.1), none, none] [] z.2.2) (E := fun z => ATk (KM k0 0 0 Qp) FN 0 0 M_X12_goesOn 83 [none, none, none, none, none, none, none] [] z) (fun z P1 g1 g2 g3 => c_X12_goesOn_l15 hM v1 v2 z g2 g3 g1) (OK_bind hh) (fun x12 hh => ?_)
  exact A_retv hM.1 rfl rfl rfl (hq x12 hh)

set_option maxRecDepth 20000 in
set_option maxHeartbeats 4000000 in
theorem ct_X12_goesOn {G : Gx} (v1 : Int) (v2 : Int) (h : Hp)   {P : Hp → Prop} (hh : OK (X12_goesOn v1 v2 h) P) : CT G yX12_goesOn M_X12_goesOn 1 0 0 FN h [aR 150, aI v1, aI v2] (fun r F' h' => F' = FN ∧ r = none ∧ P h') :=
  CT.of (by decide +kernel) rfl (Nat.le_of_ble_eq_true rfl) k_X12_goesOn fun k0 _ _ hM => c_X12_goesOn hM v1 v2 h (fun z hz => ⟨rfl, rfl, hz⟩) hh

theorem mi_X12_farOf : MIv yX12_farOf M_X12_farOf 2 := ⟨⟨(mem_GW 2097 (by decide +kernel) rfl), (mem_GW 135 (by decide +kernel) rfl), by decide +kernel, by decide +kernel, by decide +kernel, by decide⟩, (mem_GW 2096 (by decide +kernel) rfl), (mem_GW 89 (by decide +kernel) rfl)⟩
set_option maxRecDepth 20000 in
set_option maxHeartbeats 4000000 in
theorem c_X12_farOf_l5 {k0 : K0} {G : Gx} {Qp : Option AV → Fx → Hp → Prop} (hM : MB (KM k0 0 0 Qp) G M_X12_farOf 2) (v1 : Int) (v2 : Int) (x : Int × Hp)   {P : ((Int × Hp) ⊕ (Hp)) → Prop} (hin : ∀ y : Int × Hp, P (.inl y) → ATk (KM k0 0 0 Qp) FN 0 0 M_X12_farOf 5 [some (aR 150), some (aI v1), some (aI v2), some (aI y.1)] [] y.2) (hout0 : ∀ y : Hp, P (.inr y) → ATk (KM k0 0 0 Qp) FN 0 0 M_X12_farOf 24 [some (aR 150), some (aI v1), none, none] [] y) (hh : OK (X12_farOf_l5 v1 v2 x) P) : ATk (KM k0 0 0 Qp) FN 0 0 M_X12_farOf 5 [some (aR 150), some (aI v1), some (aI v2), some (aI x.1)] [] x.2 := by
  unfold X12_farOf_l5 at hh
  refine A_blk hM.1 4 (lv1 := [some (aR 150), some (aI v1), some (aI v2), some (aI x.1)]) (s1 := [aI v2, aR 164, aI x.1]) (h1 := x.2) rfl ?_
  obtain ⟨g2, hh⟩ := OK_g hh
  refine A_ald hM.1 rfl (Or.inl ⟨rfl, rfl⟩) rfl (by decide) rfl g2 ?_
  refine A_icmp hM.1 rfl rfl (fun hc => ?_) (fun hc => ?_)
  · replace hh := OK_t hh hc
    refine A_mask [true, true, false, false] (lv1 := [some (aR 150), some (aI v1), none, none]) rfl ?_
    exact hout0 x.2 hh
  · replace hh := OK_f hh hc
    refine A_blk hM.1 9 (lv1 := [some (aR 150), some (aI v1), some (aI v2), some (aI x.1)]) (s1 := [aI ((8 * v2) + x.1), aR 165, aI v1, aR 150]) (h1 := x.2) rfl ?_
    obtain ⟨g3, hh⟩ := OK_g hh
    refine A_ald hM.1 rfl (Or.inl ⟨rfl, rfl⟩) rfl (by decide) rfl g3 ?_
    refine A_callV hM rfl rfl (mem_GW 2102 (by decide +kernel) rfl) mi_X12_goesOn (As := [aI v1, aI (x.2 165 ((w32 ((8 * v2) + x.1)).toNat))]) (rest := []) (ct_X12_goesOn v1 (x.2 165 ((w32 ((8 * v2) + x.1)).toNat)) x.2 (OK_bind hh)) (by decide) ⟨Nat.zero_le _, Nat.zero_le _⟩ rfl rfl (Nat.le_of_ble_eq_true rfl) (by decide) rfl (by decide) rfl (fun r F' h' hq1 => ?_)
    obtain ⟨rfl, rfl, hh⟩ := hq1
    obtain ⟨r4, rfl⟩ : ∃ z, z = h' := ⟨_, rfl⟩
    refine A_blk hM.1 1 (lv1 := [some (aR 150), some (aI v1), some (aI v2), some (aI (x.1 + 1))]) (s1 := []) (h1 := r4) rfl ?_
    refine A_go hM.1 rfl rfl ?_
    exact hin (x.1 + 1, r4) hh

set_option maxRecDepth 20000 in
set_option maxHeartbeats 4000000 in
theorem c_X12_farOf {k0 : K0} {G : Gx} {Qp : Option AV → Fx → Hp → Prop} (hM : MB (KM k0 0 0 Qp) G M_X12_farOf 2) (v1 : Int) (v2 : Int) (h : Hp)   {P : (Int × Hp) → Prop} (hq : ∀ z : Int × Hp, P z → Qp (some (aI z.1)) FN z.2) (hh : OK (X12_farOf v1 v2 h) P) : ATk (KM k0 0 0 Qp) FN 0 0 M_X12_farOf 0 [some (aR 150), some (aI v1), some (aI v2), none] [] h := by
  unfold X12_farOf at hh
  refine A_blk hM.1 2 (lv1 := [some (aR 150), some (aI v1), some (aI v2), none]) (s1 := [aI v1, aR 150]) (h1 := h) rfl ?_
  refine A_callV hM rfl rfl (mem_GW 2098 (by decide +kernel) rfl) mi_X12_starts (As := [aI v1]) (rest := []) (ct_X12_starts v1 h (OK_bind hh)) (by decide) ⟨Nat.zero_le _, Nat.zero_le _⟩ rfl rfl (Nat.le_of_ble_eq_true rfl) (by decide) rfl (by decide) rfl (fun r F' h' hq1 => ?_)
  obtain ⟨rfl, rfl, hh⟩ := hq1
  obtain ⟨r1, rfl⟩ : ∃ z, z = h' := ⟨_, rfl⟩
  refine A_blk hM.1 2 (lv1 := [some (aR 150), some (aI v1), some (aI v2), some (aI 0)]) (s1 := []) (h1 := r1) rfl ?_
  refine iter_ok (s := (0, r1)) (Gp := fun z => ATk (KM k0 0 0 Qp) FN 0 0 M_X12_farOf 5 [some (aR 150), some (aI v1), some (aI v2), some (aI z.1)] [] z.2) (E := fun z => ATk (KM k0 0 0 Qp) FN 0 0 M_X12_farOf 24 [some (aR 150), some (aI v1), none, none] [] z) (fun z P1 g1 g2 g3 => c_X12_farOf_l5 hM v1 v2 z g2 g3 g1) (OK_bind hh) (fun x5 hh => ?_)
  refine A_blk hM.1 5 (lv1 := [some (aR 150), some (aI v1), none, none]) (s1 := [aI v1, aR 164, aR 182]) (h1 := x5) rfl ?_
  obtain ⟨g6, hh⟩ := OK_g hh
  refine A_ald hM.1 rfl (Or.inl ⟨rfl, rfl⟩) rfl (by decide) rfl g6 ?_
  obtain ⟨g7, hh⟩ := OK_g hh
  refine A_ald hM.1 rfl (Or.inl ⟨rfl, rfl⟩) rfl (by decide) rfl g7 ?_
  exact A_reti hM.1 rfl rfl rfl (hq (x5 182 ((w32 (x5 164 ((w32 v1).toNat))).toNat), x5) hh)

set_option maxRecDepth 20000 in
set_option maxHeartbeats 4000000 in
theorem ct_X12_farOf {G : Gx} (v1 : Int) (v2 : Int) (h : Hp)   {P : (Int × Hp) → Prop} (hh : OK (X12_farOf v1 v2 h) P) : CT G yX12_farOf M_X12_farOf 2 0 0 FN h [aR 150, aI v1, aI v2] (fun r F' h' => F' = FN ∧ ∃ z, r = some (aI z.1) ∧ h' = z.2 ∧ P z) :=
  CT.of (by decide +kernel) rfl (Nat.le_of_ble_eq_true rfl) k_X12_farOf fun k0 _ _ hM => c_X12_farOf hM v1 v2 h (fun z hz => ⟨rfl, z, rfl, rfl, hz⟩) hh

theorem mi_X12_apart : MIv yX12_apart M_X12_apart 2 := ⟨⟨(mem_GW 2093 (by decide +kernel) rfl), (mem_GW 135 (by decide +kernel) rfl), by decide +kernel, by decide +kernel, by decide +kernel, by decide⟩, (mem_GW 2091 (by decide +kernel) rfl), (mem_GW 2092 (by decide +kernel) rfl)⟩
set_option maxRecDepth 20000 in
set_option maxHeartbeats 4000000 in
theorem c_X12_apart {k0 : K0} {G : Gx} {Qp : Option AV → Fx → Hp → Prop} (hM : MB (KM k0 0 0 Qp) G M_X12_apart 3) (v1 : Int) (v2 : Int) (h : Hp)   {P : (Int × Hp) → Prop} (hq : ∀ z : Int × Hp, P z → Qp (some (aI z.1)) FN z.2) (hh : OK (X12_apart v1 v2 h) P) : ATk (KM k0 0 0 Qp) FN 0 0 M_X12_apart 0 [some (aR 150), some (aI v1), some (aI v2)] [] h := by
  unfold X12_apart at hh
  refine A_blk hM.1 2 (lv1 := [some (aR 150), some (aI v1), some (aI v2)]) (s1 := [aI v1, aR 150]) (h1 := h) rfl ?_
  refine A_callV hM rfl rfl (mem_GW 2086 (by decide +kernel) rfl) mi_X12_isBit (As := [aI v1]) (rest := []) (ct_X12_isBit v1 h (OK_bind hh)) (by decide) ⟨Nat.zero_le _, Nat.zero_le _⟩ rfl rfl (Nat.le_of_ble_eq_true rfl) (by decide) rfl (by decide) rfl (fun r F' h' hq1 => ?_)
  obtain ⟨rfl, r1, rfl, e9, hh⟩ := hq1
  subst h'
  refine A_ifc hM.1 rfl rfl (fun hc => ?_) (fun hc => ?_)
  · replace hh := OK_t hh hc
    refine A_blk hM.1 1 (lv1 := [some (aR 150), some (aI v1), some (aI v2)]) (s1 := [aI (-1)]) (h1 := h) rfl ?_
    exact A_reti hM.1 rfl rfl rfl (hq ((-1), h) hh)
  · replace hh := OK_f hh hc
    refine A_blk hM.1 2 (lv1 := [some (aR 150), some (aI v1), some (aI v2)]) (s1 := [aI v2, aR 150]) (h1 := h) rfl ?_
    refine A_callV hM rfl rfl (mem_GW 2086 (by decide +kernel) rfl) mi_X12_isBit (As := [aI v2]) (rest := []) (ct_X12_isBit v2 h (OK_bind hh)) (by decide) ⟨Nat.zero_le _, Nat.zero_le _⟩ rfl rfl (Nat.le_of_ble_eq_true rfl) (by decide) rfl (by decide) rfl (fun r F' h' hq1 => ?_)
    obtain ⟨rfl, r2, rfl, e9, hh⟩ := hq1
    subst h'
    refine A_ifc hM.1 rfl rfl (fun hc => ?_) (fun hc => ?_)
    · replace hh := OK_t hh hc
      refine A_blk hM.1 1 (lv1 := [some (aR 150), some (aI v1), some (aI v2)]) (s1 := [aI (-1)]) (h1 := h) rfl ?_
      exact A_reti hM.1 rfl rfl rfl (hq ((-1), h) hh)
    · replace hh := OK_f hh hc
      refine A_blk hM.1 3 (lv1 := [some (aR 150), some (aI v1), some (aI v2)]) (s1 := [aI v2, aI v1, aR 150]) (h1 := h) rfl ?_
      refine A_callV hM rfl rfl (mem_GW 2094 (by decide +kernel) rfl) mi_X12_farOf (As := [aI v1, aI v2]) (rest := []) (ct_X12_farOf v1 v2 h (OK_bind hh)) (by decide) ⟨Nat.zero_le _, Nat.zero_le _⟩ rfl rfl (Nat.le_of_ble_eq_true rfl) (by decide) rfl (by decide) rfl (fun r F' h' hq1 => ?_)
      obtain ⟨rfl, r3, rfl, e9, hh⟩ := hq1
      subst h'
      refine A_go hM.1 rfl rfl ?_
      exact A_reti hM.1 rfl rfl rfl (hq (r3.1, r3.2) hh)

set_option maxRecDepth 20000 in
set_option maxHeartbeats 4000000 in
theorem ct_X12_apart {G : Gx} (v1 : Int) (v2 : Int) (h : Hp)   {P : (Int × Hp) → Prop} (hh : OK (X12_apart v1 v2 h) P) : CT G yX12_apart M_X12_apart 3 0 0 FN h [aR 150, aI v1, aI v2] (fun r F' h' => F' = FN ∧ ∃ z, r = some (aI z.1) ∧ h' = z.2 ∧ P z) :=
  CT.of (by decide +kernel) rfl (Nat.le_of_ble_eq_true rfl) k_X12_apart fun k0 _ _ hM => c_X12_apart hM v1 v2 h (fun z hz => ⟨rfl, z, rfl, rfl, hz⟩) hh

theorem mi_X12_nears : MIv yX12_nears M_X12_nears 2 := ⟨⟨(mem_GW 2114 (by decide +kernel) rfl), (mem_GW 135 (by decide +kernel) rfl), by decide +kernel, by decide +kernel, by decide +kernel, by decide⟩, (mem_GW 2113 (by decide +kernel) rfl), (mem_GW 92 (by decide +kernel) rfl)⟩
set_option maxRecDepth 20000 in
set_option maxHeartbeats 4000000 in
theorem c_X12_nears_j66 {k0 : K0} {G : Gx} {Qp : Option AV → Fx → Hp → Prop} (hM : MB (KM k0 0 0 Qp) G M_X12_nears 2) (v1 : Int) (v2 : Int) (v3 : Int) (v4 : Int) (h : Hp)   {P : ((Int × Hp) ⊕ (Hp)) → Prop} (hin : ∀ y : Int × Hp, P (.inl y) → ATk (KM k0 0 0 Qp) FN 0 0 M_X12_nears 19 [some (aR 150), some (aI v1), some (aI v2), some (aI v3), some (aI y.1), none] [] y.2) (hout0 : ∀ y : Hp, P (.inr y) → ATk (KM k0 0 0 Qp) FN 0 0 M_X12_nears 68 [some (aR 150), some (aI v1), some (aI v2), some (aI v3), none, none] [] y) (hh : OK (X12_nears_j66 v1 v2 v3 v4 h) P) : ATk (KM k0 0 0 Qp) FN 0 0 M_X12_nears 66 [some (aR 150), some (aI v1), some (aI v2), some (aI v3), some (aI v4), none] [] h := by
  unfold X12_nears_j66 at hh
  refine A_blk hM.1 1 (lv1 := [some (aR 150), some (aI v1), some (aI v2), some (aI v3), some (aI (v4 + 1)), none]) (s1 := []) (h1 := h) rfl ?_
  refine A_go hM.1 rfl rfl ?_
  exact hin (v4 + 1, h) hh

set_option maxRecDepth 20000 in
set_option maxHeartbeats 4000000 in
theorem c_X12_nears_j57 {k0 : K0} {G : Gx} {Qp : Option AV → Fx → Hp → Prop} (hM : MB (KM k0 0 0 Qp) G M_X12_nears 2) (v1 : Int) (v2 : Int) (v3 : Int) (v4 : Int) (v5 : Int) (h : Hp)   {P : ((Int × Hp) ⊕ (Hp)) → Prop} (hin : ∀ y : Int × Hp, P (.inl y) → ATk (KM k0 0 0 Qp) FN 0 0 M_X12_nears 19 [some (aR 150), some (aI v1), some (aI v2), some (aI v3), some (aI y.1), none] [] y.2) (hout0 : ∀ y : Hp, P (.inr y) → ATk (KM k0 0 0 Qp) FN 0 0 M_X12_nears 68 [some (aR 150), some (aI v1), some (aI v2), some (aI v3), none, none] [] y) (hh : OK (X12_nears_j57 v1 v2 v3 v4 v5 h) P) : ATk (KM k0 0 0 Qp) FN 0 0 M_X12_nears 57 [some (aR 150), some (aI v1), some (aI v2), some (aI v3), some (aI v4), some (aI v5)] [] h := by
  unfold X12_nears_j57 at hh
  refine A_blk hM.1 9 (lv1 := [some (aR 150), some (aI v1), some (aI v2), some (aI v3), some (aI v4), some (aI v5)]) (s1 := []) (h1 := setH (setH (setH h 150 61 v5) 150 62 v3) 150 63 v4) rfl ?_
  refine A_mask [true, true, true, true, true, false] (lv1 := [some (aR 150), some (aI v1), some (aI v2), some (aI v3), some (aI v4), none]) rfl ?_
  exact c_X12_nears_j66 hM v1 v2 v3 v4 (setH (setH (setH h 150 61 v5) 150 62 v3) 150 63 v4) hin hout0 hh

set_option maxRecDepth 20000 in
set_option maxHeartbeats 4000000 in
theorem c_X12_nears_l19 {k0 : K0} {G : Gx} {Qp : Option AV → Fx → Hp → Prop} (hM : MB (KM k0 0 0 Qp) G M_X12_nears 2) (v1 : Int) (v2 : Int) (v3 : Int) (x : Int × Hp)   {P : ((Int × Hp) ⊕ (Hp)) → Prop} (hin : ∀ y : Int × Hp, P (.inl y) → ATk (KM k0 0 0 Qp) FN 0 0 M_X12_nears 19 [some (aR 150), some (aI v1), some (aI v2), some (aI v3), some (aI y.1), none] [] y.2) (hout0 : ∀ y : Hp, P (.inr y) → ATk (KM k0 0 0 Qp) FN 0 0 M_X12_nears 68 [some (aR 150), some (aI v1), some (aI v2), some (aI v3), none, none] [] y) (hh : OK (X12_nears_l19 v1 v2 v3 x) P) : ATk (KM k0 0 0 Qp) FN 0 0 M_X12_nears 19 [some (aR 150), some (aI v1), some (aI v2), some (aI v3), some (aI x.1), none] [] x.2 := by
  unfold X12_nears_l19 at hh
  refine A_blk hM.1 4 (lv1 := [some (aR 150), some (aI v1), some (aI v2), some (aI v3), some (aI x.1), none]) (s1 := [aI v2, aR 156, aI x.1]) (h1 := x.2) rfl ?_
  obtain ⟨g3, hh⟩ := OK_g hh
  refine A_ald hM.1 rfl (Or.inl ⟨rfl, rfl⟩) rfl (by decide) rfl g3 ?_
  refine A_icmp hM.1 rfl rfl (fun hc => ?_) (fun hc => ?_)
  · replace hh := OK_t hh hc
    refine A_mask [true, true, true, true, false, true] (lv1 := [some (aR 150), some (aI v1), some (aI v2), some (aI v3), none, none]) rfl ?_
    exact hout0 x.2 hh
  · replace hh := OK_f hh hc
    refine A_blk hM.1 9 (lv1 := [some (aR 150), some (aI v1), some (aI v2), some (aI v3), some (aI x.1), none]) (s1 := [aI ((40 * v2) + x.1), aR 157, aI v1, aR 150]) (h1 := x.2) rfl ?_
    obtain ⟨g4, hh⟩ := OK_g hh
    refine A_ald hM.1 rfl (Or.inl ⟨rfl, rfl⟩) rfl (by decide) rfl g4 ?_
    refine A_callV hM rfl rfl (mem_GW 2102 (by decide +kernel) rfl) mi_X12_goesOn (As := [aI v1, aI (x.2 157 ((w32 ((40 * v2) + x.1)).toNat))]) (rest := []) (ct_X12_goesOn v1 (x.2 157 ((w32 ((40 * v2) + x.1)).toNat)) x.2 (OK_bind hh)) (by decide) ⟨Nat.zero_le _, Nat.zero_le _⟩ rfl rfl (Nat.le_of_ble_eq_true rfl) (by decide) rfl (by decide) rfl (fun r F' h' hq1 => ?_)
    obtain ⟨rfl, rfl, hh⟩ := hq1
    obtain ⟨r5, rfl⟩ : ∃ z, z = h' := ⟨_, rfl⟩
    refine A_blk hM.1 5 (lv1 := [some (aR 150), some (aI v1), some (aI v2), some (aI v3), some (aI x.1), none]) (s1 := [aI v1, aR 164, aR 182]) (h1 := r5) rfl ?_
    obtain ⟨g6, hh⟩ := OK_g hh
    refine A_ald hM.1 rfl (Or.inl ⟨rfl, rfl⟩) rfl (by decide) rfl g6 ?_
    obtain ⟨g7, hh⟩ := OK_g hh
    refine A_ald hM.1 rfl (Or.inl ⟨rfl, rfl⟩) rfl (by decide) rfl g7 ?_
    refine A_blk hM.1 4 (lv1 := [some (aR 150), some (aI v1), some (aI v2), some (aI v3), some (aI x.1), some (aI (r5 182 ((w32 (r5 164 ((w32 v1).toNat))).toNat)))]) (s1 := [aI (r5 150 61), aI (r5 182 ((w32 (r5 164 ((w32 v1).toNat))).toNat))]) (h1 := r5) rfl ?_
    refine A_icmp hM.1 rfl rfl (fun hc => ?_) (fun hc => ?_)
    · replace hh := OK_t hh hc
      refine A_mask [true, true, true, true, true, false] (lv1 := [some (aR 150), some (aI v1), some (aI v2), some (aI v3), some (aI x.1), none]) rfl ?_
      exact c_X12_nears_j66 hM v1 v2 v3 x.1 r5 hin hout0 hh
    · replace hh := OK_f hh hc
      refine A_blk hM.1 3 (lv1 := [some (aR 150), some (aI v1), some (aI v2), some (aI v3), some (aI x.1), some (aI (r5 182 ((w32 (r5 164 ((w32 v1).toNat))).toNat)))]) (s1 := [aI (r5 150 61), aI (r5 182 ((w32 (r5 164 ((w32 v1).toNat))).toNat))]) (h1 := r5) rfl ?_
      refine A_icmp hM.1 rfl rfl (fun hc => ?_) (fun hc => ?_)
      · replace hh := OK_t hh hc
        exact c_X12_nears_j57 hM v1 v2 v3 x.1 (r5 182 ((w32 (r5 164 ((w32 v1).toNat))).toNat)) r5 hin hout0 hh
      · replace hh := OK_f hh hc
        refine A_blk hM.1 3 (lv1 := [some (aR 150), some (aI v1), some (aI v2), some (aI v3), some (aI x.1), some (aI (r5 182 ((w32 (r5 164 ((w32 v1).toNat))).toNat)))]) (s1 := [aI v3, aI (r5 150 62)]) (h1 := r5) rfl ?_
        refine A_icmp hM.1 rfl rfl (fun hc => ?_) (fun hc => ?_)
        · replace hh := OK_t hh hc
          exact c_X12_nears_j57 hM v1 v2 v3 x.1 (r5 182 ((w32 (r5 164 ((w32 v1).toNat))).toNat)) r5 hin hout0 hh
        · replace hh := OK_f hh hc
          refine A_go hM.1 rfl rfl ?_
          refine A_mask [true, true, true, true, true, false] (lv1 := [some (aR 150), some (aI v1), some (aI v2), some (aI v3), some (aI x.1), none]) rfl ?_
          exact c_X12_nears_j66 hM v1 v2 v3 x.1 r5 hin hout0 hh

set_option maxRecDepth 20000 in
set_option maxHeartbeats 4000000 in
theorem c_X12_nears_l8 {k0 : K0} {G : Gx} {Qp : Option AV → Fx → Hp → Prop} (hM : MB (KM k0 0 0 Qp) G M_X12_nears 2) (v1 : Int) (v2 : Int) (x : Int × Hp)   {P : ((Int × Hp) ⊕ (Hp)) → Prop} (hin : ∀ y : Int × Hp, P (.inl y) → ATk (KM k0 0 0 Qp) FN 0 0 M_X12_nears 8 [some (aR 150), some (aI v1), some (aI v2), some (aI y.1), none, none] [] y.2) (hout0 : ∀ y : Hp, P (.inr y) → ATk (KM k0 0 0 Qp) FN 0 0 M_X12_nears 70 [none, none, none, none, none, none] [] y) (hh : OK (X12_nears_l8 v1 v2 x) P) : ATk (KM k0 0 0 Qp) FN 0 0 M_X12_nears 8 [some (aR 150), some (aI v1), some (aI v2), some (aI x.1), none, none] [] x.2 := by
  unfold X12_nears_l8 at hh
  refine A_blk hM.1 4 (lv1 := [some (aR 150), some (aI v1), some (aI v2), some (aI x.1), none, none]) (s1 := [aI v2, aR 156, aI x.1]) (h1 := x.2) rfl ?_
  obtain ⟨g1, hh⟩ := OK_g hh
  refine A_ald hM.1 rfl (Or.inl ⟨rfl, rfl⟩) rfl (by decide) rfl g1 ?_
  refine A_icmp hM.1 rfl rfl (fun hc => ?_) (fun hc => ?_)
  · replace hh := OK_t hh hc
    refine A_mask [false, false, false, false, true, true] (lv1 := [none, none, none, none, none, none]) rfl ?_
    exact hout0 x.2 hh
  · replace hh := OK_f hh hc
    refine A_blk hM.1 2 (lv1 := [some (aR 150), some (aI v1), some (aI v2), some (aI x.1), none, none]) (s1 := [aI v1, aR 150]) (h1 := x.2) rfl ?_
    refine A_callV hM rfl rfl (mem_GW 2098 (by decide +kernel) rfl) mi_X12_starts (As := [aI v1]) (rest := []) (ct_X12_starts v1 x.2 (OK_bind hh)) (by decide) ⟨Nat.zero_le _, Nat.zero_le _⟩ rfl rfl (Nat.le_of_ble_eq_true rfl) (by decide) rfl (by decide) rfl (fun r F' h' hq1 => ?_)
    obtain ⟨rfl, rfl, hh⟩ := hq1
    obtain ⟨r2, rfl⟩ : ∃ z, z = h' := ⟨_, rfl⟩
    refine A_blk hM.1 2 (lv1 := [some (aR 150), some (aI v1), some (aI v2), some (aI x.1), some (aI x.1), none]) (s1 := []) (h1 := r2) rfl ?_
    refine iter_ok (s := (x.1, r2)) (Gp := fun z => ATk (KM k0 0 0 Qp) FN 0 0 M_X12_nears 19 [some (aR 150), some (aI v1), some (aI v2), some (aI x.1), some (aI z.1), none] [] z.2) (E := fun z => ATk (KM k0 0 0 Qp) FN 0 0 M_X12_nears 68 [some (aR 150), some (aI v1), some (aI v2), some (aI x.1), none, none] [] z) (fun z P1 g1 g2 g3 => c_X12_nears_l19 hM v1 v2 x.1 z g2 g3 g1) (OK_bind hh) (fun x8 hh => ?_)
    refine A_blk hM.1 1 (lv1 := [some (aR 150), some (aI v1), some (aI v2), some (aI (x.1 + 1)), none, none]) (s1 := []) (h1 := x8) rfl ?_
    refine A_go hM.1 rfl rfl ?_
    exact hin (x.1 + 1, x8) hh

set_option maxRecDepth 20000 in
set_option maxHeartbeats 4000000 in
theorem c_X12_nears {k0 : K0} {G : Gx} {Qp : Option AV → Fx → Hp → Prop} (hM : MB (KM k0 0 0 Qp) G M_X12_nears 2) (v1 : Int) (v2 : Int) (h : Hp)   {P : Hp → Prop} (hq : ∀ z : Hp, P z → Qp none FN z) (hh : OK (X12_nears v1 v2 h) P) : ATk (KM k0 0 0 Qp) FN 0 0 M_X12_nears 0 [some (aR 150), some (aI v1), some (aI v2), none, none, none] [] h := by
  unfold X12_nears at hh
  refine A_blk hM.1 8 (lv1 := [some (aR 150), some (aI v1), some (aI v2), some (aI 0), none, none]) (s1 := []) (h1 := setH (setH h 150 61 100) 150 62 (-1)) rfl ?_
  refine iter_ok (s := (0, setH (setH h 150 61 100) 150 62 (-1))) (Gp := fun z => ATk (KM k0 0 0 Qp) FN 0 0 M_X12_nears 8 [some (aR 150), some (aI v1), some (aI v2), some (aI z.1), none, none] [] z.2) (E := fun z => ATk (KM k0 0 0 Qp) FN 0 0 M_X12_nears 70 [none, none, none, none, none, none] [] z) (fun z P1 g1 g2 g3 => c_X12_nears_l8 hM v1 v2 z g2 g3 g1) (OK_bind hh) (fun x9 hh => ?_)
  exact A_retv hM.1 rfl rfl rfl (hq x9 hh)

set_option maxRecDepth 20000 in
set_option maxHeartbeats 4000000 in
theorem ct_X12_nears {G : Gx} (v1 : Int) (v2 : Int) (h : Hp)   {P : Hp → Prop} (hh : OK (X12_nears v1 v2 h) P) : CT G yX12_nears M_X12_nears 2 0 0 FN h [aR 150, aI v1, aI v2] (fun r F' h' => F' = FN ∧ r = none ∧ P h') :=
  CT.of (by decide +kernel) rfl (Nat.le_of_ble_eq_true rfl) k_X12_nears fun k0 _ _ hM => c_X12_nears hM v1 v2 h (fun z hz => ⟨rfl, rfl, hz⟩) hh

theorem mi_X12_nearnessNow : MIv yX12_nearnessNow M_X12_nearnessNow 1 := ⟨⟨(mem_GW 2118 (by decide +kernel) rfl), (mem_GW 135 (by decide +kernel) rfl), by decide +kernel, by decide +kernel, by decide +kernel, by decide⟩, (mem_GW 2117 (by decide +kernel) rfl), (mem_GW 93 (by decide +kernel) rfl)⟩
set_option maxRecDepth 20000 in
set_option maxHeartbeats 4000000 in
theorem c_X12_nearnessNow {k0 : K0} {G : Gx} {Qp : Option AV → Fx → Hp → Prop} (hM : MB (KM k0 0 0 Qp) G M_X12_nearnessNow 1) (v1 : Int) (h : Hp)   {P : Int → Prop} (hq : ∀ z : Int, P z → Qp (some (aI z)) FN h) (hh : OK (X12_nearnessNow v1 h) P) : ATk (KM k0 0 0 Qp) FN 0 0 M_X12_nearnessNow 0 [some (aR 150), some (aI v1)] [] h := by
  unfold X12_nearnessNow at hh
  refine A_blk hM.1 5 (lv1 := [some (aR 150), some (aI v1)]) (s1 := [aI v1, aR 164, aI (h 150 61)]) (h1 := h) rfl ?_
  obtain ⟨g1, hh⟩ := OK_g hh
  refine A_ald hM.1 rfl (Or.inl ⟨rfl, rfl⟩) rfl (by decide) rfl g1 ?_
  refine A_icmp hM.1 rfl rfl (fun hc => ?_) (fun hc => ?_)
  · replace hh := OK_t hh hc
    refine A_blk hM.1 4 (lv1 := [some (aR 150), some (aI v1)]) (s1 := [aI v1, aR 164, aI 1000]) (h1 := h) rfl ?_
    obtain ⟨g2, hh⟩ := OK_g hh
    refine A_ald hM.1 rfl (Or.inl ⟨rfl, rfl⟩) rfl (by decide) rfl g2 ?_
    refine A_blk hM.1 7 (lv1 := [some (aR 150), some (aI v1)]) (s1 := [aI v1, aR 164, aI (1000 * ((h 164 ((w32 v1).toNat)) - (h 150 61)))]) (h1 := h) rfl ?_
    obtain ⟨g3, hh⟩ := OK_g hh
    refine A_ald hM.1 rfl (Or.inl ⟨rfl, rfl⟩) rfl (by decide) rfl g3 ?_
    obtain ⟨g4, hh⟩ := OK_g hh
    refine A_idiv hM.1 rfl rfl g4 ?_
    exact A_reti hM.1 rfl rfl rfl (hq (div32 (1000 * ((h 164 ((w32 v1).toNat)) - (h 150 61))) (h 164 ((w32 v1).toNat))) hh)
  · replace hh := OK_f hh hc
    refine A_blk hM.1 1 (lv1 := [some (aR 150), some (aI v1)]) (s1 := [aI 0]) (h1 := h) rfl ?_
    refine A_go hM.1 rfl rfl ?_
    exact A_reti hM.1 rfl rfl rfl (hq 0 hh)

set_option maxRecDepth 20000 in
set_option maxHeartbeats 4000000 in
theorem ct_X12_nearnessNow {G : Gx} (v1 : Int) (h : Hp)   {P : Int → Prop} (hh : OK (X12_nearnessNow v1 h) P) : CT G yX12_nearnessNow M_X12_nearnessNow 1 0 0 FN h [aR 150, aI v1] (fun r F' h' => F' = FN ∧ ∃ z, r = some (aI z) ∧ h' = h ∧ P z) :=
  CT.of (by decide +kernel) rfl (Nat.le_of_ble_eq_true rfl) k_X12_nearnessNow fun k0 _ _ hM => c_X12_nearnessNow hM v1 h (fun z hz => ⟨rfl, z, rfl, rfl, hz⟩) hh

theorem mi_X12_near : MIv yX12_near M_X12_near 3 := ⟨⟨(mem_GW 2109 (by decide +kernel) rfl), (mem_GW 135 (by decide +kernel) rfl), by decide +kernel, by decide +kernel, by decide +kernel, by decide⟩, (mem_GW 2107 (by decide +kernel) rfl), (mem_GW 2108 (by decide +kernel) rfl)⟩
set_option maxRecDepth 20000 in
set_option maxHeartbeats 4000000 in
theorem c_X12_near {k0 : K0} {G : Gx} {Qp : Option AV → Fx → Hp → Prop} (hM : MB (KM k0 0 0 Qp) G M_X12_near 4) (v1 : Int) (v2 : Int) (v3 : Int) (h : Hp)   {P : (Int × Hp) → Prop} (hq : ∀ z : Int × Hp, P z → Qp (some (aI z.1)) FN z.2) (hh : OK (X12_near v1 v2 v3 h) P) : ATk (KM k0 0 0 Qp) FN 0 0 M_X12_near 0 [some (aR 150), some (aI v1), some (aI v2), some (aI v3)] [] h := by
  unfold X12_near at hh
  refine A_blk hM.1 2 (lv1 := [some (aR 150), some (aI v1), some (aI v2), some (aI v3)]) (s1 := [aI v1, aR 150]) (h1 := h) rfl ?_
  refine A_callV hM rfl rfl (mem_GW 2086 (by decide +kernel) rfl) mi_X12_isBit (As := [aI v1]) (rest := []) (ct_X12_isBit v1 h (OK_bind hh)) (by decide) ⟨Nat.zero_le _, Nat.zero_le _⟩ rfl rfl (Nat.le_of_ble_eq_true rfl) (by decide) rfl (by decide) rfl (fun r F' h' hq1 => ?_)
  obtain ⟨rfl, r1, rfl, e9, hh⟩ := hq1
  subst h'
  refine A_ifc hM.1 rfl rfl (fun hc => ?_) (fun hc => ?_)
  · replace hh := OK_t hh hc
    refine A_blk hM.1 1 (lv1 := [some (aR 150), some (aI v1), some (aI v2), some (aI v3)]) (s1 := [aI (-1)]) (h1 := h) rfl ?_
    exact A_reti hM.1 rfl rfl rfl (hq ((-1), h) hh)
  · replace hh := OK_f hh hc
    refine A_blk hM.1 2 (lv1 := [some (aR 150), some (aI v1), some (aI v2), some (aI v3)]) (s1 := [aI v2, aR 150]) (h1 := h) rfl ?_
    refine A_callV hM rfl rfl (mem_GW 2050 (by decide +kernel) rfl) mi_X12_isLeft (As := [aI v2]) (rest := []) (ct_X12_isLeft v2 h (OK_bind hh)) (by decide) ⟨Nat.zero_le _, Nat.zero_le _⟩ rfl rfl (Nat.le_of_ble_eq_true rfl) (by decide) rfl (by decide) rfl (fun r F' h' hq1 => ?_)
    obtain ⟨rfl, r2, rfl, e9, hh⟩ := hq1
    subst h'
    refine A_ifc hM.1 rfl rfl (fun hc => ?_) (fun hc => ?_)
    · replace hh := OK_t hh hc
      refine A_blk hM.1 1 (lv1 := [some (aR 150), some (aI v1), some (aI v2), some (aI v3)]) (s1 := [aI (-1)]) (h1 := h) rfl ?_
      exact A_reti hM.1 rfl rfl rfl (hq ((-1), h) hh)
    · replace hh := OK_f hh hc
      refine A_blk hM.1 4 (lv1 := [some (aR 150), some (aI v1), some (aI v2), some (aI v3)]) (s1 := [aL 3, aL 0, aL (w32 v3)]) (h1 := h) rfl ?_
      refine A_callS hM rfl rfl (mem_GW 1879 (by decide +kernel) rfl) mi_X12_lies ms_X12_lies (As := [aL (w32 v3), aL 0, aL 3]) (rest := []) (ct_X12_lies (w32 v3) 0 3 h (OK_bind hh)) (by decide) ⟨Nat.zero_le _, Nat.zero_le _⟩ rfl rfl (Nat.le_of_ble_eq_true rfl) (fun r F' h' hq1 => ?_)
      obtain ⟨rfl, r3, rfl, e9, hh⟩ := hq1
      subst h'
      refine A_ifc hM.1 rfl rfl (fun hc => ?_) (fun hc => ?_)
      · replace hh := OK_t hh hc
        refine A_blk hM.1 3 (lv1 := [some (aR 150), some (aI v1), some (aI v2), some (aI v3)]) (s1 := [aI v2, aI v1, aR 150]) (h1 := h) rfl ?_
        refine A_callV hM rfl rfl (mem_GW 2111 (by decide +kernel) rfl) mi_X12_nears (As := [aI v1, aI v2]) (rest := []) (ct_X12_nears v1 v2 h (OK_bind hh)) (by decide) ⟨Nat.zero_le _, Nat.zero_le _⟩ rfl rfl (Nat.le_of_ble_eq_true rfl) (by decide) rfl (by decide) rfl (fun r F' h' hq1 => ?_)
        obtain ⟨rfl, rfl, hh⟩ := hq1
        obtain ⟨r4, rfl⟩ : ∃ z, z = h' := ⟨_, rfl⟩
        refine A_blk hM.1 1 (lv1 := [some (aR 150), some (aI v1), some (aI v2), some (aI v3)]) (s1 := [aI v3]) (h1 := r4) rfl ?_
        refine A_ifc hM.1 rfl rfl (fun hc => ?_) (fun hc => ?_)
        · replace hh := OK_t hh hc
          refine A_blk hM.1 2 (lv1 := [some (aR 150), some (aI v1), some (aI v2), some (aI v3)]) (s1 := [aI 1, aI v3]) (h1 := r4) rfl ?_
          refine A_icmp hM.1 rfl rfl (fun hc => ?_) (fun hc => ?_)
          · replace hh := OK_t hh hc
            refine A_blk hM.1 2 (lv1 := [some (aR 150), some (aI v1), some (aI v2), some (aI v3)]) (s1 := [aI 2, aI v3]) (h1 := r4) rfl ?_
            refine A_icmp hM.1 rfl rfl (fun hc => ?_) (fun hc => ?_)
            · replace hh := OK_t hh hc
              refine A_blk hM.1 2 (lv1 := [some (aR 150), some (aI v1), some (aI v2), some (aI v3)]) (s1 := [aI v1, aR 150]) (h1 := r4) rfl ?_
              refine A_callV hM rfl rfl (mem_GW 2115 (by decide +kernel) rfl) mi_X12_nearnessNow (As := [aI v1]) (rest := []) (ct_X12_nearnessNow v1 r4 (OK_bind hh)) (by decide) ⟨Nat.zero_le _, Nat.zero_le _⟩ rfl rfl (Nat.le_of_ble_eq_true rfl) (by decide) rfl (by decide) rfl (fun r F' h' hq1 => ?_)
              obtain ⟨rfl, r5, rfl, e9, hh⟩ := hq1
              subst h'
              exact A_reti hM.1 rfl rfl rfl (hq (r5, r4) hh)
            · replace hh := OK_f hh hc
              refine A_blk hM.1 2 (lv1 := [some (aR 150), some (aI v1), some (aI v2), some (aI v3)]) (s1 := [aI (r4 150 63)]) (h1 := r4) rfl ?_
              refine A_go hM.1 rfl rfl ?_
              exact A_reti hM.1 rfl rfl rfl (hq (r4 150 63, r4) hh)
          · replace hh := OK_f hh hc
            refine A_blk hM.1 2 (lv1 := [some (aR 150), some (aI v1), some (aI v2), some (aI v3)]) (s1 := [aI (r4 150 62)]) (h1 := r4) rfl ?_
            refine A_go hM.1 rfl rfl ?_
            exact A_reti hM.1 rfl rfl rfl (hq (r4 150 62, r4) hh)
        · replace hh := OK_f hh hc
          refine A_blk hM.1 2 (lv1 := [some (aR 150), some (aI v1), some (aI v2), some (aI v3)]) (s1 := [aI (r4 150 61)]) (h1 := r4) rfl ?_
          refine A_go hM.1 rfl rfl ?_
          exact A_reti hM.1 rfl rfl rfl (hq (r4 150 61, r4) hh)
      · replace hh := OK_f hh hc
        refine A_blk hM.1 1 (lv1 := [some (aR 150), some (aI v1), some (aI v2), some (aI v3)]) (s1 := [aI (-1)]) (h1 := h) rfl ?_
        exact A_reti hM.1 rfl rfl rfl (hq ((-1), h) hh)

set_option maxRecDepth 20000 in
set_option maxHeartbeats 4000000 in
theorem ct_X12_near {G : Gx} (v1 : Int) (v2 : Int) (v3 : Int) (h : Hp)   {P : (Int × Hp) → Prop} (hh : OK (X12_near v1 v2 v3 h) P) : CT G yX12_near M_X12_near 4 0 0 FN h [aR 150, aI v1, aI v2, aI v3] (fun r F' h' => F' = FN ∧ ∃ z, r = some (aI z.1) ∧ h' = z.2 ∧ P z) :=
  CT.of (by decide +kernel) rfl (Nat.le_of_ble_eq_true rfl) k_X12_near fun k0 _ _ hM => c_X12_near hM v1 v2 v3 h (fun z hz => ⟨rfl, z, rfl, rfl, hz⟩) hh

