set_option linter.all false
theorem mi_X2_source : MIv yX2_source M_X2_source 0 := ⟨⟨(mem_GW 1262 (by decide +kernel) rfl), (mem_GW 130 (by decide +kernel) rfl), by decide +kernel, by decide +kernel, by decide +kernel, by decide⟩, (mem_GW 1260 (by decide +kernel) rfl), (mem_GW 1261 (by decide +kernel) rfl)⟩
set_option maxRecDepth 20000 in
set_option maxHeartbeats 4000000 in
theorem c_X2_source {k0 : K0} {G : Gx} {Qp : Option AV → Fx → Hp → Prop} (hM : MB (KM k0 0 0 Qp) G M_X2_source 1) (h : Hp)   {P : Int → Prop} (hq : ∀ z : Int, P z → Qp (some (aI z)) FN h) (hh : OK (X2_source h) P) : ATk (KM k0 0 0 Qp) FN 0 0 M_X2_source 0 [some (aR 61)] [] h := by
  unfold X2_source at hh
  refine A_blk hM.1 2 (lv1 := [some (aR 61)]) (s1 := [aI (h 61 8)]) (h1 := h) rfl ?_
  exact A_reti hM.1 rfl rfl rfl (hq (h 61 8) hh)

set_option maxRecDepth 20000 in
set_option maxHeartbeats 4000000 in
theorem ct_X2_source {G : Gx} (h : Hp)   {P : Int → Prop} (hh : OK (X2_source h) P) : CT G yX2_source M_X2_source 1 0 0 FN h [aR 61] (fun r F' h' => F' = FN ∧ ∃ z, r = some (aI z) ∧ h' = h ∧ P z) :=
  CT.of (by decide +kernel) rfl (Nat.le_of_ble_eq_true rfl) k_X2_source fun k0 _ _ hM => c_X2_source hM h (fun z hz => ⟨rfl, z, rfl, rfl, hz⟩) hh

theorem mi_X2_cost : MIv yX2_cost M_X2_cost 0 := ⟨⟨(mem_GW 1266 (by decide +kernel) rfl), (mem_GW 130 (by decide +kernel) rfl), by decide +kernel, by decide +kernel, by decide +kernel, by decide⟩, (mem_GW 1264 (by decide +kernel) rfl), (mem_GW 1265 (by decide +kernel) rfl)⟩
set_option maxRecDepth 20000 in
set_option maxHeartbeats 4000000 in
theorem c_X2_cost {k0 : K0} {G : Gx} {Qp : Option AV → Fx → Hp → Prop} (hM : MB (KM k0 0 0 Qp) G M_X2_cost 1) (h : Hp)   {P : Int → Prop} (hq : ∀ z : Int, P z → Qp (some (aI z)) FN h) (hh : OK (X2_cost h) P) : ATk (KM k0 0 0 Qp) FN 0 0 M_X2_cost 0 [some (aR 61)] [] h := by
  unfold X2_cost at hh
  refine A_blk hM.1 2 (lv1 := [some (aR 61)]) (s1 := [aI (h 61 9)]) (h1 := h) rfl ?_
  exact A_reti hM.1 rfl rfl rfl (hq (h 61 9) hh)

set_option maxRecDepth 20000 in
set_option maxHeartbeats 4000000 in
theorem ct_X2_cost {G : Gx} (h : Hp)   {P : Int → Prop} (hh : OK (X2_cost h) P) : CT G yX2_cost M_X2_cost 1 0 0 FN h [aR 61] (fun r F' h' => F' = FN ∧ ∃ z, r = some (aI z) ∧ h' = h ∧ P z) :=
  CT.of (by decide +kernel) rfl (Nat.le_of_ble_eq_true rfl) k_X2_cost fun k0 _ _ hM => c_X2_cost hM h (fun z hz => ⟨rfl, z, rfl, rfl, hz⟩) hh

theorem mi_X11_from : MIv yX11_from M_X11_from 3 := ⟨⟨(mem_GW 1243 (by decide +kernel) rfl), (mem_GW 123 (by decide +kernel) rfl), by decide +kernel, by decide +kernel, by decide +kernel, by decide⟩, (mem_GW 1241 (by decide +kernel) rfl), (mem_GW 1242 (by decide +kernel) rfl)⟩
set_option maxRecDepth 20000 in
set_option maxHeartbeats 4000000 in
theorem c_X11_from {k0 : K0} {G : Gx} {Qp : Option AV → Fx → Hp → Prop} (hM : MB (KM k0 0 0 Qp) G M_X11_from 7) (v1 : Int) (v2 : Int) (v3 : Int) (h : Hp)   {P : (Int × Hp) → Prop} (hq : ∀ z : Int × Hp, P z → Qp (some (aI z.1)) FN z.2) (hh : OK (X11_from v1 v2 v3 h) P) : ATk (KM k0 0 0 Qp) FN 0 0 M_X11_from 0 [some (aR 0), some (aI v1), some (aI v2), some (aI v3)] [] h := by
  unfold X11_from at hh
  refine A_blk hM.1 3 (lv1 := [some (aR 0), some (aI v1), some (aI v2), some (aI v3)]) (s1 := [aI v1, aR 3]) (h1 := h) rfl ?_
  refine A_callV hM rfl rfl (mem_GW 665 (by decide +kernel) rfl) mi_X7_isWriter (As := [aI v1]) (rest := []) (ct_X7_isWriter v1 h (OK_bind hh)) (by decide) ⟨Nat.zero_le _, Nat.zero_le _⟩ rfl rfl (Nat.le_of_ble_eq_true rfl) (by decide) rfl (by decide) rfl (fun r F' h' hq1 => ?_)
  obtain ⟨rfl, r1, rfl, e9, hh⟩ := hq1
  subst h'
  refine A_ifc hM.1 rfl rfl (fun hc => ?_) (fun hc => ?_)
  · replace hh := OK_t hh hc
    refine A_blk hM.1 1 (lv1 := [some (aR 0), some (aI v1), some (aI v2), some (aI v3)]) (s1 := [aI (-3)]) (h1 := h) rfl ?_
    exact A_reti hM.1 rfl rfl rfl (hq ((-3), h) hh)
  · replace hh := OK_f hh hc
    refine A_blk hM.1 3 (lv1 := [some (aR 0), some (aI v1), some (aI v2), some (aI v3)]) (s1 := [aI v2, aR 3]) (h1 := h) rfl ?_
    refine A_callV hM rfl rfl (mem_GW 636 (by decide +kernel) rfl) mi_X7_isLeft (As := [aI v2]) (rest := []) (ct_X7_isLeft v2 h (OK_bind hh)) (by decide) ⟨Nat.zero_le _, Nat.zero_le _⟩ rfl rfl (Nat.le_of_ble_eq_true rfl) (by decide) rfl (by decide) rfl (fun r F' h' hq1 => ?_)
    obtain ⟨rfl, r2, rfl, e9, hh⟩ := hq1
    subst h'
    refine A_ifc hM.1 rfl rfl (fun hc => ?_) (fun hc => ?_)
    · replace hh := OK_t hh hc
      refine A_blk hM.1 1 (lv1 := [some (aR 0), some (aI v1), some (aI v2), some (aI v3)]) (s1 := [aI (-3)]) (h1 := h) rfl ?_
      exact A_reti hM.1 rfl rfl rfl (hq ((-3), h) hh)
    · replace hh := OK_f hh hc
      refine A_blk hM.1 3 (lv1 := [some (aR 0), some (aI v1), some (aI v2), some (aI v3)]) (s1 := [aI 1, aI 0, aI v3]) (h1 := h) rfl ?_
      refine A_callS hM rfl rfl (mem_GW 576 (by decide +kernel) rfl) mi_X11_within ms_X11_within (As := [aI v3, aI 0, aI 1]) (rest := []) (ct_X11_within v3 0 1 h (OK_bind hh)) (by decide) ⟨Nat.zero_le _, Nat.zero_le _⟩ rfl rfl (Nat.le_of_ble_eq_true rfl) (fun r F' h' hq1 => ?_)
      obtain ⟨rfl, r3, rfl, e9, hh⟩ := hq1
      subst h'
      refine A_ifc hM.1 rfl rfl (fun hc => ?_) (fun hc => ?_)
      · replace hh := OK_t hh hc
        refine A_blk hM.1 4 (lv1 := [some (aR 0), some (aI v1), some (aI v2), some (aI v3)]) (s1 := [aI v2, aI v1, aR 61]) (h1 := h) rfl ?_
        refine A_callV hM rfl rfl (mem_GW 1244 (by decide +kernel) rfl) mi_X2_findSource (As := [aI v1, aI v2]) (rest := []) (ct_X2_findSource v1 v2 h (OK_bind hh)) (by decide) ⟨Nat.zero_le _, Nat.zero_le _⟩ rfl rfl (Nat.le_of_ble_eq_true rfl) (by decide) rfl (by decide) rfl (fun r F' h' hq1 => ?_)
        obtain ⟨rfl, rfl, hh⟩ := hq1
        obtain ⟨r4, rfl⟩ : ∃ z, z = h' := ⟨_, rfl⟩
        refine A_blk hM.1 2 (lv1 := [some (aR 0), some (aI v1), some (aI v2), some (aI v3)]) (s1 := [aR 61]) (h1 := r4) rfl ?_
        refine A_callV hM rfl rfl (mem_GW 1255 (by decide +kernel) rfl) mi_X2_hasPlaces (As := []) (rest := []) (ct_X2_hasPlaces r4 (OK_bind hh)) (by decide) ⟨Nat.zero_le _, Nat.zero_le _⟩ rfl rfl (Nat.le_of_ble_eq_true rfl) (by decide) rfl (by decide) rfl (fun r F' h' hq1 => ?_)
        obtain ⟨rfl, r5, rfl, e9, hh⟩ := hq1
        subst h'
        refine A_ifc hM.1 rfl rfl (fun hc => ?_) (fun hc => ?_)
        · replace hh := OK_t hh hc
          refine A_blk hM.1 1 (lv1 := [some (aR 0), some (aI v1), some (aI v2), some (aI v3)]) (s1 := [aI v3]) (h1 := r4) rfl ?_
          refine A_ifc hM.1 rfl rfl (fun hc => ?_) (fun hc => ?_)
          · replace hh := OK_t hh hc
            refine A_blk hM.1 2 (lv1 := [some (aR 0), some (aI v1), some (aI v2), some (aI v3)]) (s1 := [aR 61]) (h1 := r4) rfl ?_
            refine A_callV hM rfl rfl (mem_GW 1263 (by decide +kernel) rfl) mi_X2_cost (As := []) (rest := []) (ct_X2_cost r4 (OK_bind hh)) (by decide) ⟨Nat.zero_le _, Nat.zero_le _⟩ rfl rfl (Nat.le_of_ble_eq_true rfl) (by decide) rfl (by decide) rfl (fun r F' h' hq1 => ?_)
            obtain ⟨rfl, r6, rfl, e9, hh⟩ := hq1
            subst h'
            exact A_reti hM.1 rfl rfl rfl (hq (r6, r4) hh)
          · replace hh := OK_f hh hc
            refine A_blk hM.1 2 (lv1 := [some (aR 0), some (aI v1), some (aI v2), some (aI v3)]) (s1 := [aR 61]) (h1 := r4) rfl ?_
            refine A_callV hM rfl rfl (mem_GW 1259 (by decide +kernel) rfl) mi_X2_source (As := []) (rest := []) (ct_X2_source r4 (OK_bind hh)) (by decide) ⟨Nat.zero_le _, Nat.zero_le _⟩ rfl rfl (Nat.le_of_ble_eq_true rfl) (by decide) rfl (by decide) rfl (fun r F' h' hq1 => ?_)
            obtain ⟨rfl, r7, rfl, e9, hh⟩ := hq1
            subst h'
            refine A_go hM.1 rfl rfl ?_
            exact A_reti hM.1 rfl rfl rfl (hq (r7, r4) hh)
        · replace hh := OK_f hh hc
          refine A_blk hM.1 1 (lv1 := [some (aR 0), some (aI v1), some (aI v2), some (aI v3)]) (s1 := [aI (-2)]) (h1 := r4) rfl ?_
          exact A_reti hM.1 rfl rfl rfl (hq ((-2), r4) hh)
      · replace hh := OK_f hh hc
        refine A_blk hM.1 1 (lv1 := [some (aR 0), some (aI v1), some (aI v2), some (aI v3)]) (s1 := [aI (-3)]) (h1 := h) rfl ?_
        exact A_reti hM.1 rfl rfl rfl (hq ((-3), h) hh)

set_option maxRecDepth 20000 in
set_option maxHeartbeats 4000000 in
theorem ct_X11_from {G : Gx} (v1 : Int) (v2 : Int) (v3 : Int) (h : Hp)   {P : (Int × Hp) → Prop} (hh : OK (X11_from v1 v2 v3 h) P) : CT G yX11_from M_X11_from 7 0 0 FN h [aR 0, aI v1, aI v2, aI v3] (fun r F' h' => F' = FN ∧ ∃ z, r = some (aI z.1) ∧ h' = z.2 ∧ P z) :=
  CT.of (by decide +kernel) rfl (Nat.le_of_ble_eq_true rfl) k_X11_from fun k0 _ _ hM => c_X11_from hM v1 v2 v3 h (fun z hz => ⟨rfl, z, rfl, rfl, hz⟩) hh

theorem mi_X2_lastYearHad : MIv yX2_lastYearHad M_X2_lastYearHad 1 := ⟨⟨(mem_GW 1274 (by decide +kernel) rfl), (mem_GW 130 (by decide +kernel) rfl), by decide +kernel, by decide +kernel, by decide +kernel, by decide⟩, (mem_GW 1272 (by decide +kernel) rfl), (mem_GW 1273 (by decide +kernel) rfl)⟩
set_option maxRecDepth 20000 in
set_option maxHeartbeats 4000000 in
theorem c_X2_lastYearHad_j27 {k0 : K0} {G : Gx} {Qp : Option AV → Fx → Hp → Prop} (hM : MB (KM k0 0 0 Qp) G M_X2_lastYearHad 7) (v1 : Int) (v2 : Int) (v3 : Int) (h : Hp)   {P : ((Int × Int × Hp) ⊕ (Int × Hp)) → Prop} (hin : ∀ y : Int × Int × Hp, P (.inl y) → ATk (KM k0 0 0 Qp) FN 0 0 M_X2_lastYearHad 4 [some (aR 61), some (aI v1), some (aI y.1), some (aI y.2.1)] [] y.2.2) (hout0 : ∀ y : Int × Hp, P (.inr y) → ATk (KM k0 0 0 Qp) FN 0 0 M_X2_lastYearHad 29 [none, none, some (aI y.1), none] [] y.2) (hh : OK (X2_lastYearHad_j27 v1 v2 v3 h) P) : ATk (KM k0 0 0 Qp) FN 0 0 M_X2_lastYearHad 27 [some (aR 61), some (aI v1), some (aI v2), some (aI v3)] [] h := by
  unfold X2_lastYearHad_j27 at hh
  refine A_blk hM.1 1 (lv1 := [some (aR 61), some (aI v1), some (aI v2), some (aI (v3 + 1))]) (s1 := []) (h1 := h) rfl ?_
  refine A_go hM.1 rfl rfl ?_
  exact hin (v2, v3 + 1, h) hh

set_option maxRecDepth 20000 in
set_option maxHeartbeats 4000000 in
theorem c_X2_lastYearHad_l4 {k0 : K0} {G : Gx} {Qp : Option AV → Fx → Hp → Prop} (hM : MB (KM k0 0 0 Qp) G M_X2_lastYearHad 7) (v1 : Int) (x : Int × Int × Hp)   {P : ((Int × Int × Hp) ⊕ (Int × Hp)) → Prop} (hin : ∀ y : Int × Int × Hp, P (.inl y) → ATk (KM k0 0 0 Qp) FN 0 0 M_X2_lastYearHad 4 [some (aR 61), some (aI v1), some (aI y.1), some (aI y.2.1)] [] y.2.2) (hout0 : ∀ y : Int × Hp, P (.inr y) → ATk (KM k0 0 0 Qp) FN 0 0 M_X2_lastYearHad 29 [none, none, some (aI y.1), none] [] y.2) (hh : OK (X2_lastYearHad_l4 v1 x) P) : ATk (KM k0 0 0 Qp) FN 0 0 M_X2_lastYearHad 4 [some (aR 61), some (aI v1), some (aI x.1), some (aI x.2.1)] [] x.2.2 := by
  unfold X2_lastYearHad_l4 at hh
  refine A_blk hM.1 3 (lv1 := [some (aR 61), some (aI v1), some (aI x.1), some (aI x.2.1)]) (s1 := [aR 3, aI x.2.1]) (h1 := x.2.2) rfl ?_
  refine A_callV hM rfl rfl (mem_GW 1248 (by decide +kernel) rfl) mi_X7_writers (As := []) (rest := [aI x.2.1]) (ct_X7_writers x.2.2 (OK_bind hh)) (by decide) ⟨Nat.zero_le _, Nat.zero_le _⟩ rfl rfl (Nat.le_of_ble_eq_true rfl) (by decide) rfl (by decide) rfl (fun r F' h' hq1 => ?_)
  obtain ⟨rfl, r1, rfl, e9, hh⟩ := hq1
  subst h'
  refine A_icmp hM.1 rfl rfl (fun hc => ?_) (fun hc => ?_)
  · replace hh := OK_t hh hc
    refine A_mask [false, false, true, false] (lv1 := [none, none, some (aI x.1), none]) rfl ?_
    exact hout0 (x.1, x.2.2) hh
  · replace hh := OK_f hh hc
    refine A_blk hM.1 3 (lv1 := [some (aR 61), some (aI v1), some (aI x.1), some (aI x.2.1)]) (s1 := [aI v1, aI x.2.1, aR 61]) (h1 := x.2.2) rfl ?_
    refine A_callV hM rfl rfl (mem_GW 1275 (by decide +kernel) rfl) mi_X2_findSource (As := [aI x.2.1, aI v1]) (rest := []) (ct_X2_findSource x.2.1 v1 x.2.2 (OK_bind hh)) (by decide) ⟨Nat.zero_le _, Nat.zero_le _⟩ rfl rfl (Nat.le_of_ble_eq_true rfl) (by decide) rfl (by decide) rfl (fun r F' h' hq1 => ?_)
    obtain ⟨rfl, rfl, hh⟩ := hq1
    obtain ⟨r2, rfl⟩ : ∃ z, z = h' := ⟨_, rfl⟩
    refine A_blk hM.1 1 (lv1 := [some (aR 61), some (aI v1), some (aI x.1), some (aI x.2.1)]) (s1 := [aR 61]) (h1 := r2) rfl ?_
    refine A_callV hM rfl rfl (mem_GW 1276 (by decide +kernel) rfl) mi_X2_hasPlaces (As := []) (rest := []) (ct_X2_hasPlaces r2 (OK_bind hh)) (by decide) ⟨Nat.zero_le _, Nat.zero_le _⟩ rfl rfl (Nat.le_of_ble_eq_true rfl) (by decide) rfl (by decide) rfl (fun r F' h' hq1 => ?_)
    obtain ⟨rfl, r3, rfl, e9, hh⟩ := hq1
    subst h'
    refine A_ifc hM.1 rfl rfl (fun hc => ?_) (fun hc => ?_)
    · replace hh := OK_t hh hc
      exact c_X2_lastYearHad_j27 hM v1 x.1 x.2.1 r2 hin hout0 hh
    · replace hh := OK_f hh hc
      refine A_blk hM.1 3 (lv1 := [some (aR 61), some (aI v1), some (aI x.1), some (aI x.2.1)]) (s1 := [aI (-1), aI (r2 61 8)]) (h1 := r2) rfl ?_
      refine A_icmp hM.1 rfl rfl (fun hc => ?_) (fun hc => ?_)
      · replace hh := OK_t hh hc
        exact c_X2_lastYearHad_j27 hM v1 x.1 x.2.1 r2 hin hout0 hh
      · replace hh := OK_f hh hc
        refine A_blk hM.1 4 (lv1 := [some (aR 61), some (aI v1), some (aI x.1), some (aI x.2.1)]) (s1 := [aI x.2.1, aR 3, aI x.1]) (h1 := r2) rfl ?_
        refine A_callV hM rfl rfl (mem_GW 1249 (by decide +kernel) rfl) mi_X7_writerYear (As := [aI x.2.1]) (rest := [aI x.1]) (ct_X7_writerYear x.2.1 r2 (OK_bind hh)) (by decide) ⟨Nat.zero_le _, Nat.zero_le _⟩ rfl rfl (Nat.le_of_ble_eq_true rfl) (by decide) rfl (by decide) rfl (fun r F' h' hq1 => ?_)
        obtain ⟨rfl, r4, rfl, e9, hh⟩ := hq1
        subst h'
        refine A_max hM rfl rfl (mem_GW 1277 (by decide +kernel) rfl) (by decide) (Nat.le_of_ble_eq_true rfl) ⟨Nat.zero_le _, Nat.zero_le _⟩ ?_
        refine A_blk hM.1 1 (lv1 := [some (aR 61), some (aI v1), some (aI (maxI x.1 r4)), some (aI x.2.1)]) (s1 := []) (h1 := r2) rfl ?_
        exact c_X2_lastYearHad_j27 hM v1 (maxI x.1 r4) x.2.1 r2 hin hout0 hh

set_option maxRecDepth 20000 in
set_option maxHeartbeats 4000000 in
theorem c_X2_lastYearHad {k0 : K0} {G : Gx} {Qp : Option AV → Fx → Hp → Prop} (hM : MB (KM k0 0 0 Qp) G M_X2_lastYearHad 7) (v1 : Int) (h : Hp)   {P : (Int × Hp) → Prop} (hq : ∀ z : Int × Hp, P z → Qp (some (aI z.1)) FN z.2) (hh : OK (X2_lastYearHad v1 h) P) : ATk (KM k0 0 0 Qp) FN 0 0 M_X2_lastYearHad 0 [some (aR 61), some (aI v1), none, none] [] h := by
  unfold X2_lastYearHad at hh
  refine A_blk hM.1 4 (lv1 := [some (aR 61), some (aI v1), some (aI (-1)), some (aI 0)]) (s1 := []) (h1 := h) rfl ?_
  refine iter_ok (s := ((-1), 0, h)) (Gp := fun z => ATk (KM k0 0 0 Qp) FN 0 0 M_X2_lastYearHad 4 [some (aR 61), some (aI v1), some (aI z.1), some (aI z.2.1)] [] z.2.2) (E := fun z => ATk (KM k0 0 0 Qp) FN 0 0 M_X2_lastYearHad 29 [none, none, some (aI z.1), none] [] z.2) (fun z P1 g1 g2 g3 => c_X2_lastYearHad_l4 hM v1 z g2 g3 g1) (OK_bind hh) (fun x5 hh => ?_)
  refine A_blk hM.1 1 (lv1 := [none, none, some (aI x5.1), none]) (s1 := [aI x5.1]) (h1 := x5.2) rfl ?_
  exact A_reti hM.1 rfl rfl rfl (hq (x5.1, x5.2) hh)

set_option maxRecDepth 20000 in
set_option maxHeartbeats 4000000 in
theorem ct_X2_lastYearHad {G : Gx} (v1 : Int) (h : Hp)   {P : (Int × Hp) → Prop} (hh : OK (X2_lastYearHad v1 h) P) : CT G yX2_lastYearHad M_X2_lastYearHad 7 0 0 FN h [aR 61, aI v1] (fun r F' h' => F' = FN ∧ ∃ z, r = some (aI z.1) ∧ h' = z.2 ∧ P z) :=
  CT.of (by decide +kernel) rfl (Nat.le_of_ble_eq_true rfl) k_X2_lastYearHad fun k0 _ _ hM => c_X2_lastYearHad hM v1 h (fun z hz => ⟨rfl, z, rfl, rfl, hz⟩) hh

theorem mi_X11_there : MIv yX11_there M_X11_there 1 := ⟨⟨(mem_GW 1270 (by decide +kernel) rfl), (mem_GW 123 (by decide +kernel) rfl), by decide +kernel, by decide +kernel, by decide +kernel, by decide⟩, (mem_GW 1268 (by decide +kernel) rfl), (mem_GW 1269 (by decide +kernel) rfl)⟩
set_option maxRecDepth 20000 in
set_option maxHeartbeats 4000000 in
theorem c_X11_there {k0 : K0} {G : Gx} {Qp : Option AV → Fx → Hp → Prop} (hM : MB (KM k0 0 0 Qp) G M_X11_there 8) (v1 : Int) (h : Hp)   {P : (Int × Hp) → Prop} (hq : ∀ z : Int × Hp, P z → Qp (some (aI z.1)) FN z.2) (hh : OK (X11_there v1 h) P) : ATk (KM k0 0 0 Qp) FN 0 0 M_X11_there 0 [some (aR 0), some (aI v1)] [] h := by
  unfold X11_there at hh
  refine A_blk hM.1 3 (lv1 := [some (aR 0), some (aI v1)]) (s1 := [aI v1, aR 3]) (h1 := h) rfl ?_
  refine A_callV hM rfl rfl (mem_GW 636 (by decide +kernel) rfl) mi_X7_isLeft (As := [aI v1]) (rest := []) (ct_X7_isLeft v1 h (OK_bind hh)) (by decide) ⟨Nat.zero_le _, Nat.zero_le _⟩ rfl rfl (Nat.le_of_ble_eq_true rfl) (by decide) rfl (by decide) rfl (fun r F' h' hq1 => ?_)
  obtain ⟨rfl, r1, rfl, e9, hh⟩ := hq1
  subst h'
  refine A_ifc hM.1 rfl rfl (fun hc => ?_) (fun hc => ?_)
  · replace hh := OK_t hh hc
    refine A_blk hM.1 1 (lv1 := [some (aR 0), some (aI v1)]) (s1 := [aI (-1)]) (h1 := h) rfl ?_
    exact A_reti hM.1 rfl rfl rfl (hq ((-1), h) hh)
  · replace hh := OK_f hh hc
    refine A_blk hM.1 3 (lv1 := [some (aR 0), some (aI v1)]) (s1 := [aI v1, aR 61]) (h1 := h) rfl ?_
    refine A_callV hM rfl rfl (mem_GW 1271 (by decide +kernel) rfl) mi_X2_lastYearHad (As := [aI v1]) (rest := []) (ct_X2_lastYearHad v1 h (OK_bind hh)) (by decide) ⟨Nat.zero_le _, Nat.zero_le _⟩ rfl rfl (Nat.le_of_ble_eq_true rfl) (by decide) rfl (by decide) rfl (fun r F' h' hq1 => ?_)
    obtain ⟨rfl, r2, rfl, e9, hh⟩ := hq1
    subst h'
    refine A_go hM.1 rfl rfl ?_
    exact A_reti hM.1 rfl rfl rfl (hq (r2.1, r2.2) hh)

set_option maxRecDepth 20000 in
set_option maxHeartbeats 4000000 in
theorem ct_X11_there {G : Gx} (v1 : Int) (h : Hp)   {P : (Int × Hp) → Prop} (hh : OK (X11_there v1 h) P) : CT G yX11_there M_X11_there 8 0 0 FN h [aR 0, aI v1] (fun r F' h' => F' = FN ∧ ∃ z, r = some (aI z.1) ∧ h' = z.2 ∧ P z) :=
  CT.of (by decide +kernel) rfl (Nat.le_of_ble_eq_true rfl) k_X11_there fun k0 _ _ hM => c_X11_there hM v1 h (fun z hz => ⟨rfl, z, rfl, rfl, hz⟩) hh

theorem mi_X7_ofOneWork : MIv yX7_ofOneWork M_X7_ofOneWork 2 := ⟨⟨(mem_GW 1285 (by decide +kernel) rfl), (mem_GW 125 (by decide +kernel) rfl), by decide +kernel, by decide +kernel, by decide +kernel, by decide⟩, (mem_GW 1283 (by decide +kernel) rfl), (mem_GW 1284 (by decide +kernel) rfl)⟩
set_option maxRecDepth 20000 in
set_option maxHeartbeats 4000000 in
theorem c_X7_ofOneWork {k0 : K0} {G : Gx} {Qp : Option AV → Fx → Hp → Prop} (hM : MB (KM k0 0 0 Qp) G M_X7_ofOneWork 3) (v1 : Int) (v2 : Int) (h : Hp)   {P : Int → Prop} (hq : ∀ z : Int, P z → Qp (some (aI z)) FN h) (hh : OK (X7_ofOneWork v1 v2 h) P) : ATk (KM k0 0 0 Qp) FN 0 0 M_X7_ofOneWork 0 [some (aR 3), some (aI v1), some (aI v2)] [] h := by
  unfold X7_ofOneWork at hh
  refine A_blk hM.1 2 (lv1 := [some (aR 3), some (aI v1), some (aI v2)]) (s1 := [aI v1, aR 3]) (h1 := h) rfl ?_
  refine A_callV hM rfl rfl (mem_GW 1286 (by decide +kernel) rfl) mi_X7_bitWork (As := [aI v1]) (rest := []) (ct_X7_bitWork v1 h (OK_bind hh)) (by decide) ⟨Nat.zero_le _, Nat.zero_le _⟩ rfl rfl (Nat.le_of_ble_eq_true rfl) (by decide) rfl (by decide) rfl (fun r F' h' hq1 => ?_)
  obtain ⟨rfl, r1, rfl, e9, hh⟩ := hq1
  subst h'
  refine A_blk hM.1 1 (lv1 := [some (aR 3), some (aI v1), some (aI v2)]) (s1 := [aI (-1), aI r1]) (h1 := h) rfl ?_
  refine A_icmp hM.1 rfl rfl (fun hc => ?_) (fun hc => ?_)
  · replace hh := OK_t hh hc
    refine A_blk hM.1 1 (lv1 := [some (aR 3), some (aI v1), some (aI v2)]) (s1 := [aI 0]) (h1 := h) rfl ?_
    exact A_retz hM.1 rfl rfl rfl (by decide) (hq 0 hh)
  · replace hh := OK_f hh hc
    refine A_blk hM.1 2 (lv1 := [some (aR 3), some (aI v1), some (aI v2)]) (s1 := [aI v1, aR 3]) (h1 := h) rfl ?_
    refine A_callV hM rfl rfl (mem_GW 1286 (by decide +kernel) rfl) mi_X7_bitWork (As := [aI v1]) (rest := []) (ct_X7_bitWork v1 h (OK_bind hh)) (by decide) ⟨Nat.zero_le _, Nat.zero_le _⟩ rfl rfl (Nat.le_of_ble_eq_true rfl) (by decide) rfl (by decide) rfl (fun r F' h' hq1 => ?_)
    obtain ⟨rfl, r2, rfl, e9, hh⟩ := hq1
    subst h'
    refine A_blk hM.1 2 (lv1 := [some (aR 3), some (aI v1), some (aI v2)]) (s1 := [aI v2, aR 3, aI r2]) (h1 := h) rfl ?_
    refine A_callV hM rfl rfl (mem_GW 1286 (by decide +kernel) rfl) mi_X7_bitWork (As := [aI v2]) (rest := [aI r2]) (ct_X7_bitWork v2 h (OK_bind hh)) (by decide) ⟨Nat.zero_le _, Nat.zero_le _⟩ rfl rfl (Nat.le_of_ble_eq_true rfl) (by decide) rfl (by decide) rfl (fun r F' h' hq1 => ?_)
    obtain ⟨rfl, r3, rfl, e9, hh⟩ := hq1
    subst h'
    refine A_icmp hM.1 rfl rfl (fun hc => ?_) (fun hc => ?_)
    · replace hh := OK_t hh hc
      refine A_blk hM.1 1 (lv1 := [some (aR 3), some (aI v1), some (aI v2)]) (s1 := [aI 0]) (h1 := h) rfl ?_
      exact A_retz hM.1 rfl rfl rfl (by decide) (hq 0 hh)
    · replace hh := OK_f hh hc
      refine A_blk hM.1 1 (lv1 := [some (aR 3), some (aI v1), some (aI v2)]) (s1 := [aI 1]) (h1 := h) rfl ?_
      refine A_go hM.1 rfl rfl ?_
      exact A_retz hM.1 rfl rfl rfl (by decide) (hq 1 hh)

set_option maxRecDepth 20000 in
set_option maxHeartbeats 4000000 in
theorem ct_X7_ofOneWork {G : Gx} (v1 : Int) (v2 : Int) (h : Hp)   {P : Int → Prop} (hh : OK (X7_ofOneWork v1 v2 h) P) : CT G yX7_ofOneWork M_X7_ofOneWork 3 0 0 FN h [aR 3, aI v1, aI v2] (fun r F' h' => F' = FN ∧ ∃ z, r = some (aI z) ∧ h' = h ∧ P z) :=
  CT.of (by decide +kernel) rfl (Nat.le_of_ble_eq_true rfl) k_X7_ofOneWork fun k0 _ _ hM => c_X7_ofOneWork hM v1 v2 h (fun z hz => ⟨rfl, z, rfl, rfl, hz⟩) hh

theorem mi_X5_tell : MIv yX5_tell M_X5_tell 2 := ⟨⟨(mem_GW 1290 (by decide +kernel) rfl), (mem_GW 132 (by decide +kernel) rfl), by decide +kernel, by decide +kernel, by decide +kernel, by decide⟩, (mem_GW 1288 (by decide +kernel) rfl), (mem_GW 1289 (by decide +kernel) rfl)⟩
set_option maxRecDepth 20000 in
set_option maxHeartbeats 4000000 in
theorem c_X5_tell_j20 {k0 : K0} {G : Gx} {Qp : Option AV → Fx → Hp → Prop} (hM : MB (KM k0 0 0 Qp) G M_X5_tell 2) (v1 : Int) (v2 : Int) (v3 : Int) (h : Hp)   {P : ((Int × Hp) ⊕ ((Hp) ⊕ (Hp))) → Prop} (hin : ∀ y : Int × Hp, P (.inl y) → ATk (KM k0 0 0 Qp) FN 0 0 M_X5_tell 2 [some (aR 66), some (aI v1), some (aI v2), some (aI y.1)] [] y.2) (hout0 : ∀ y : Hp, P (.inr (.inl y)) → ATk (KM k0 0 0 Qp) FN 0 0 M_X5_tell 18 [none, none, none, none] [] y) (hout1 : ∀ y : Hp, P (.inr (.inr y)) → ATk (KM k0 0 0 Qp) FN 0 0 M_X5_tell 22 [some (aR 66), some (aI v1), some (aI v2), none] [] y) (hh : OK (X5_tell_j20 v1 v2 v3 h) P) : ATk (KM k0 0 0 Qp) FN 0 0 M_X5_tell 20 [some (aR 66), some (aI v1), some (aI v2), some (aI v3)] [] h := by
  unfold X5_tell_j20 at hh
  refine A_blk hM.1 1 (lv1 := [some (aR 66), some (aI v1), some (aI v2), some (aI (v3 + 1))]) (s1 := []) (h1 := h) rfl ?_
  refine A_go hM.1 rfl rfl ?_
  exact hin (v3 + 1, h) hh

set_option maxRecDepth 20000 in
set_option maxHeartbeats 4000000 in
theorem c_X5_tell_l2 {k0 : K0} {G : Gx} {Qp : Option AV → Fx → Hp → Prop} (hM : MB (KM k0 0 0 Qp) G M_X5_tell 2) (v1 : Int) (v2 : Int) (x : Int × Hp)   {P : ((Int × Hp) ⊕ ((Hp) ⊕ (Hp))) → Prop} (hin : ∀ y : Int × Hp, P (.inl y) → ATk (KM k0 0 0 Qp) FN 0 0 M_X5_tell 2 [some (aR 66), some (aI v1), some (aI v2), some (aI y.1)] [] y.2) (hout0 : ∀ y : Hp, P (.inr (.inl y)) → ATk (KM k0 0 0 Qp) FN 0 0 M_X5_tell 18 [none, none, none, none] [] y) (hout1 : ∀ y : Hp, P (.inr (.inr y)) → ATk (KM k0 0 0 Qp) FN 0 0 M_X5_tell 22 [some (aR 66), some (aI v1), some (aI v2), none] [] y) (hh : OK (X5_tell_l2 v1 v2 x) P) : ATk (KM k0 0 0 Qp) FN 0 0 M_X5_tell 2 [some (aR 66), some (aI v1), some (aI v2), some (aI x.1)] [] x.2 := by
  unfold X5_tell_l2 at hh
  refine A_blk hM.1 3 (lv1 := [some (aR 66), some (aI v1), some (aI v2), some (aI x.1)]) (s1 := [aI (x.2 66 2), aI x.1]) (h1 := x.2) rfl ?_
  refine A_icmp hM.1 rfl rfl (fun hc => ?_) (fun hc => ?_)
  · replace hh := OK_t hh hc
    refine A_mask [true, true, true, false] (lv1 := [some (aR 66), some (aI v1), some (aI v2), none]) rfl ?_
    exact hout1 x.2 hh
  · replace hh := OK_f hh hc
    refine A_blk hM.1 3 (lv1 := [some (aR 66), some (aI v1), some (aI v2), some (aI x.1)]) (s1 := [aI x.1, aR 67]) (h1 := x.2) rfl ?_
    refine A_callSN (host := "QuotedBooks") hM rfl rfl (mem_NW 1291 (by decide +kernel) rfl) mi_X11_at ms_X11_at (As := [aR 67, aI x.1]) (rest := []) (ct_X11_at 67 60 x.1 x.2 rfl rfl (OK_bind hh)) (by decide) ⟨Nat.zero_le _, Nat.zero_le _⟩ rfl rfl (Nat.le_of_ble_eq_true rfl) (fun r F' h' hq1 => ?_)
    obtain ⟨rfl, r1, rfl, e9, hh⟩ := hq1
    subst h'
    refine A_blk hM.1 1 (lv1 := [some (aR 66), some (aI v1), some (aI v2), some (aI x.1)]) (s1 := [aI v1, aI r1]) (h1 := x.2) rfl ?_
    refine A_icmp hM.1 rfl rfl (fun hc => ?_) (fun hc => ?_)
    · replace hh := OK_t hh hc
      exact c_X5_tell_j20 hM v1 v2 x.1 x.2 hin hout0 hout1 hh
    · replace hh := OK_f hh hc
      refine A_blk hM.1 3 (lv1 := [some (aR 66), some (aI v1), some (aI v2), some (aI x.1)]) (s1 := [aI x.1, aR 68]) (h1 := x.2) rfl ?_
      refine A_callSN (host := "QuotedBooks") hM rfl rfl (mem_NW 1291 (by decide +kernel) rfl) mi_X11_at ms_X11_at (As := [aR 68, aI x.1]) (rest := []) (ct_X11_at 68 60 x.1 x.2 rfl rfl (OK_bind hh)) (by decide) ⟨Nat.zero_le _, Nat.zero_le _⟩ rfl rfl (Nat.le_of_ble_eq_true rfl) (fun r F' h' hq1 => ?_)
      obtain ⟨rfl, r2, rfl, e9, hh⟩ := hq1
      subst h'
      refine A_blk hM.1 1 (lv1 := [some (aR 66), some (aI v1), some (aI v2), some (aI x.1)]) (s1 := [aI v2, aI r2]) (h1 := x.2) rfl ?_
      refine A_icmp hM.1 rfl rfl (fun hc => ?_) (fun hc => ?_)
      · replace hh := OK_t hh hc
        exact c_X5_tell_j20 hM v1 v2 x.1 x.2 hin hout0 hout1 hh
      · replace hh := OK_f hh hc
        refine A_mask [false, false, false, false] (lv1 := [none, none, none, none]) rfl ?_
        exact hout0 x.2 hh

set_option maxRecDepth 20000 in
set_option maxHeartbeats 4000000 in
theorem c_X5_tell {k0 : K0} {G : Gx} {Qp : Option AV → Fx → Hp → Prop} (hM : MB (KM k0 0 0 Qp) G M_X5_tell 2) (v1 : Int) (v2 : Int) (h : Hp)   {P : (Int × Hp) → Prop} (hq : ∀ z : Int × Hp, P z → Qp (some (aI z.1)) FN z.2) (hh : OK (X5_tell v1 v2 h) P) : ATk (KM k0 0 0 Qp) FN 0 0 M_X5_tell 0 [some (aR 66), some (aI v1), some (aI v2), none] [] h := by
  unfold X5_tell at hh
  refine A_blk hM.1 2 (lv1 := [some (aR 66), some (aI v1), some (aI v2), some (aI 0)]) (s1 := []) (h1 := h) rfl ?_
  refine iter_ok (s := (0, h)) (Gp := fun z => ATk (KM k0 0 0 Qp) FN 0 0 M_X5_tell 2 [some (aR 66), some (aI v1), some (aI v2), some (aI z.1)] [] z.2) (E := fun z => (∀ y, z = (.inl y) → ATk (KM k0 0 0 Qp) FN 0 0 M_X5_tell 18 [none, none, none, none] [] y) ∧ (∀ y, z = (.inr y) → ATk (KM k0 0 0 Qp) FN 0 0 M_X5_tell 22 [some (aR 66), some (aI v1), some (aI v2), none] [] y)) (fun z P1 g1 g2 g3 => c_X5_tell_l2 hM v1 v2 z g2 (fun y hy => (g3 (.inl y) hy).1 y rfl) (fun y hy => (g3 (.inr y) hy).2 y rfl) g1) (OK_bind hh) (fun x3 hh => ?_)
  refine ⟨fun y e => ?_, fun y e => ?_⟩
  · obtain ⟨y4, rfl⟩ : ∃ z, z = y := ⟨_, rfl⟩
    subst e
    refine A_blk hM.1 1 (lv1 := [none, none, none, none]) (s1 := [aI 0]) (h1 := y4) rfl ?_
    exact A_retz hM.1 rfl rfl rfl (by decide) (hq (0, y4) hh)
  · obtain ⟨y5, rfl⟩ : ∃ z, z = y := ⟨_, rfl⟩
    subst e
    refine A_blk hM.1 3 (lv1 := [some (aR 66), some (aI v1), some (aI v2), none]) (s1 := [aI 60, aI (y5 66 2)]) (h1 := y5) rfl ?_
    refine A_icmp hM.1 rfl rfl (fun hc => ?_) (fun hc => ?_)
    · replace hh := OK_t hh hc
      refine A_blk hM.1 5 (lv1 := [some (aR 66), some (aI v1), some (aI v2), none]) (s1 := [aI v1, aI (y5 66 2), aR 67]) (h1 := y5) rfl ?_
      refine A_callSN (host := "QuotedBooks") hM rfl rfl (mem_NW 1292 (by decide +kernel) rfl) mi_X11_put ms_X11_put (As := [aR 67, aI (y5 66 2), aI v1]) (rest := []) (ct_X11_put 67 60 (y5 66 2) v1 y5 rfl rfl (OK_bind hh)) (by decide) ⟨Nat.zero_le _, Nat.zero_le _⟩ rfl rfl (Nat.le_of_ble_eq_true rfl) (fun r F' h' hq1 => ?_)
      obtain ⟨rfl, rfl, hh⟩ := hq1
      obtain ⟨r6, rfl⟩ : ∃ z, z = h' := ⟨_, rfl⟩
      refine A_blk hM.1 5 (lv1 := [some (aR 66), some (aI v1), some (aI v2), none]) (s1 := [aI v2, aI (r6 66 2), aR 68]) (h1 := r6) rfl ?_
      refine A_callSN (host := "QuotedBooks") hM rfl rfl (mem_NW 1292 (by decide +kernel) rfl) mi_X11_put ms_X11_put (As := [aR 68, aI (r6 66 2), aI v2]) (rest := []) (ct_X11_put 68 60 (r6 66 2) v2 r6 rfl rfl (OK_bind hh)) (by decide) ⟨Nat.zero_le _, Nat.zero_le _⟩ rfl rfl (Nat.le_of_ble_eq_true rfl) (fun r F' h' hq1 => ?_)
      obtain ⟨rfl, rfl, hh⟩ := hq1
      obtain ⟨r7, rfl⟩ : ∃ z, z = h' := ⟨_, rfl⟩
      refine A_blk hM.1 7 (lv1 := [some (aR 66), some (aI v1), some (aI v2), none]) (s1 := [aR 66]) (h1 := setH r7 66 2 ((r7 66 2) + 1)) rfl ?_
      refine A_callV hM rfl rfl (mem_GW 1293 (by decide +kernel) rfl) mi_X5_forget (As := []) (rest := []) (ct_X5_forget (setH r7 66 2 ((r7 66 2) + 1)) (OK_bind hh)) (by decide) ⟨Nat.zero_le _, Nat.zero_le _⟩ rfl rfl (Nat.le_of_ble_eq_true rfl) (by decide) rfl (by decide) rfl (fun r F' h' hq1 => ?_)
      obtain ⟨rfl, rfl, hh⟩ := hq1
      obtain ⟨r8, rfl⟩ : ∃ z, z = h' := ⟨_, rfl⟩
      refine A_blk hM.1 1 (lv1 := [some (aR 66), some (aI v1), some (aI v2), none]) (s1 := [aI 1]) (h1 := r8) rfl ?_
      exact A_retz hM.1 rfl rfl rfl (by decide) (hq (1, r8) hh)
    · replace hh := OK_f hh hc
      refine A_blk hM.1 1 (lv1 := [some (aR 66), some (aI v1), some (aI v2), none]) (s1 := [aI 0]) (h1 := y5) rfl ?_
      exact A_retz hM.1 rfl rfl rfl (by decide) (hq (0, y5) hh)

set_option maxRecDepth 20000 in
set_option maxHeartbeats 4000000 in
theorem ct_X5_tell {G : Gx} (v1 : Int) (v2 : Int) (h : Hp)   {P : (Int × Hp) → Prop} (hh : OK (X5_tell v1 v2 h) P) : CT G yX5_tell M_X5_tell 2 0 0 FN h [aR 66, aI v1, aI v2] (fun r F' h' => F' = FN ∧ ∃ z, r = some (aI z.1) ∧ h' = z.2 ∧ P z) :=
  CT.of (by decide +kernel) rfl (Nat.le_of_ble_eq_true rfl) k_X5_tell fun k0 _ _ hM => c_X5_tell hM v1 v2 h (fun z hz => ⟨rfl, z, rfl, rfl, hz⟩) hh

theorem mi_X11_ahead : MIv yX11_ahead M_X11_ahead 2 := ⟨⟨(mem_GW 1281 (by decide +kernel) rfl), (mem_GW 123 (by decide +kernel) rfl), by decide +kernel, by decide +kernel, by decide +kernel, by decide⟩, (mem_GW 1279 (by decide +kernel) rfl), (mem_GW 1280 (by decide +kernel) rfl)⟩
set_option maxRecDepth 20000 in
set_option maxHeartbeats 4000000 in
theorem c_X11_ahead {k0 : K0} {G : Gx} {Qp : Option AV → Fx → Hp → Prop} (hM : MB (KM k0 0 0 Qp) G M_X11_ahead 4) (v1 : Int) (v2 : Int) (h : Hp)   {P : (Int × Hp) → Prop} (hq : ∀ z : Int × Hp, P z → Qp (some (aI z.1)) FN z.2) (hh : OK (X11_ahead v1 v2 h) P) : ATk (KM k0 0 0 Qp) FN 0 0 M_X11_ahead 0 [some (aR 0), some (aI v1), some (aI v2)] [] h := by
  unfold X11_ahead at hh
  refine A_blk hM.1 3 (lv1 := [some (aR 0), some (aI v1), some (aI v2)]) (s1 := [aI v1, aR 3]) (h1 := h) rfl ?_
  refine A_callV hM rfl rfl (mem_GW 986 (by decide +kernel) rfl) mi_X7_isBit (As := [aI v1]) (rest := []) (ct_X7_isBit v1 h (OK_bind hh)) (by decide) ⟨Nat.zero_le _, Nat.zero_le _⟩ rfl rfl (Nat.le_of_ble_eq_true rfl) (by decide) rfl (by decide) rfl (fun r F' h' hq1 => ?_)
  obtain ⟨rfl, r1, rfl, e9, hh⟩ := hq1
  subst h'
  refine A_ifc hM.1 rfl rfl (fun hc => ?_) (fun hc => ?_)
  · replace hh := OK_t hh hc
    refine A_blk hM.1 1 (lv1 := [some (aR 0), some (aI v1), some (aI v2)]) (s1 := [aI 0]) (h1 := h) rfl ?_
    exact A_retz hM.1 rfl rfl rfl (by decide) (hq (0, h) hh)
  · replace hh := OK_f hh hc
    refine A_blk hM.1 3 (lv1 := [some (aR 0), some (aI v1), some (aI v2)]) (s1 := [aI v2, aR 3]) (h1 := h) rfl ?_
    refine A_callV hM rfl rfl (mem_GW 986 (by decide +kernel) rfl) mi_X7_isBit (As := [aI v2]) (rest := []) (ct_X7_isBit v2 h (OK_bind hh)) (by decide) ⟨Nat.zero_le _, Nat.zero_le _⟩ rfl rfl (Nat.le_of_ble_eq_true rfl) (by decide) rfl (by decide) rfl (fun r F' h' hq1 => ?_)
    obtain ⟨rfl, r2, rfl, e9, hh⟩ := hq1
    subst h'
    refine A_ifc hM.1 rfl rfl (fun hc => ?_) (fun hc => ?_)
    · replace hh := OK_t hh hc
      refine A_blk hM.1 1 (lv1 := [some (aR 0), some (aI v1), some (aI v2)]) (s1 := [aI 0]) (h1 := h) rfl ?_
      exact A_retz hM.1 rfl rfl rfl (by decide) (hq (0, h) hh)
    · replace hh := OK_f hh hc
      refine A_blk hM.1 2 (lv1 := [some (aR 0), some (aI v1), some (aI v2)]) (s1 := [aI v2, aI v1]) (h1 := h) rfl ?_
      refine A_icmp hM.1 rfl rfl (fun hc => ?_) (fun hc => ?_)
      · replace hh := OK_t hh hc
        refine A_blk hM.1 1 (lv1 := [some (aR 0), some (aI v1), some (aI v2)]) (s1 := [aI 0]) (h1 := h) rfl ?_
        exact A_retz hM.1 rfl rfl rfl (by decide) (hq (0, h) hh)
      · replace hh := OK_f hh hc
        refine A_blk hM.1 4 (lv1 := [some (aR 0), some (aI v1), some (aI v2)]) (s1 := [aI v2, aI v1, aR 3]) (h1 := h) rfl ?_
        refine A_callV hM rfl rfl (mem_GW 1282 (by decide +kernel) rfl) mi_X7_ofOneWork (As := [aI v1, aI v2]) (rest := []) (ct_X7_ofOneWork v1 v2 h (OK_bind hh)) (by decide) ⟨Nat.zero_le _, Nat.zero_le _⟩ rfl rfl (Nat.le_of_ble_eq_true rfl) (by decide) rfl (by decide) rfl (fun r F' h' hq1 => ?_)
        obtain ⟨rfl, r3, rfl, e9, hh⟩ := hq1
        subst h'
        refine A_ifc hM.1 rfl rfl (fun hc => ?_) (fun hc => ?_)
        · replace hh := OK_t hh hc
          refine A_blk hM.1 1 (lv1 := [some (aR 0), some (aI v1), some (aI v2)]) (s1 := [aI 0]) (h1 := h) rfl ?_
          exact A_retz hM.1 rfl rfl rfl (by decide) (hq (0, h) hh)
        · replace hh := OK_f hh hc
          refine A_blk hM.1 4 (lv1 := [some (aR 0), some (aI v1), some (aI v2)]) (s1 := [aI v2, aI v1, aR 66]) (h1 := h) rfl ?_
          refine A_callV hM rfl rfl (mem_GW 1287 (by decide +kernel) rfl) mi_X5_tell (As := [aI v1, aI v2]) (rest := []) (ct_X5_tell v1 v2 h (OK_bind hh)) (by decide) ⟨Nat.zero_le _, Nat.zero_le _⟩ rfl rfl (Nat.le_of_ble_eq_true rfl) (by decide) rfl (by decide) rfl (fun r F' h' hq1 => ?_)
          obtain ⟨rfl, r4, rfl, e9, hh⟩ := hq1
          subst h'
          refine A_ifc hM.1 rfl rfl (fun hc => ?_) (fun hc => ?_)
          · replace hh := OK_t hh hc
            refine A_blk hM.1 1 (lv1 := [some (aR 0), some (aI v1), some (aI v2)]) (s1 := [aI 0]) (h1 := r4.2) rfl ?_
            exact A_retz hM.1 rfl rfl rfl (by decide) (hq (0, r4.2) hh)
          · replace hh := OK_f hh hc
            refine A_blk hM.1 1 (lv1 := [some (aR 0), some (aI v1), some (aI v2)]) (s1 := [aI 1]) (h1 := r4.2) rfl ?_
            refine A_go hM.1 rfl rfl ?_
            exact A_retz hM.1 rfl rfl rfl (by decide) (hq (1, r4.2) hh)

set_option maxRecDepth 20000 in
set_option maxHeartbeats 4000000 in
theorem ct_X11_ahead {G : Gx} (v1 : Int) (v2 : Int) (h : Hp)   {P : (Int × Hp) → Prop} (hh : OK (X11_ahead v1 v2 h) P) : CT G yX11_ahead M_X11_ahead 4 0 0 FN h [aR 0, aI v1, aI v2] (fun r F' h' => F' = FN ∧ ∃ z, r = some (aI z.1) ∧ h' = z.2 ∧ P z) :=
  CT.of (by decide +kernel) rfl (Nat.le_of_ble_eq_true rfl) k_X11_ahead fun k0 _ _ hM => c_X11_ahead hM v1 v2 h (fun z hz => ⟨rfl, z, rfl, rfl, hz⟩) hh

theorem mi_X5_placeOf : MIv yX5_placeOf M_X5_placeOf 1 := ⟨⟨(mem_GW 1311 (by decide +kernel) rfl), (mem_GW 132 (by decide +kernel) rfl), by decide +kernel, by decide +kernel, by decide +kernel, by decide⟩, (mem_GW 1310 (by decide +kernel) rfl), (mem_GW 38 (by decide +kernel) rfl)⟩
set_option maxRecDepth 20000 in
set_option maxHeartbeats 4000000 in
theorem c_X5_placeOf_l2 {k0 : K0} {G : Gx} {Qp : Option AV → Fx → Hp → Prop} (hM : MB (KM k0 0 0 Qp) G M_X5_placeOf 1) (v1 : Int) (h : Hp) (x : Int)   {P : ((Int) ⊕ ((Int) ⊕ (Unit))) → Prop} (hin : ∀ y : Int, P (.inl y) → ATk (KM k0 0 0 Qp) FN 0 0 M_X5_placeOf 2 [some (aR 66), some (aI v1), some (aI y)] [] h) (hout0 : ∀ y : Int, P (.inr (.inl y)) → ATk (KM k0 0 0 Qp) FN 0 0 M_X5_placeOf 15 [none, none, some (aI y)] [] h) (hout1 : ∀ y : Unit, P (.inr (.inr y)) → ATk (KM k0 0 0 Qp) FN 0 0 M_X5_placeOf 19 [none, none, none] [] h) (hh : OK (X5_placeOf_l2 v1 h x) P) : ATk (KM k0 0 0 Qp) FN 0 0 M_X5_placeOf 2 [some (aR 66), some (aI v1), some (aI x)] [] h := by
  unfold X5_placeOf_l2 at hh
  refine A_blk hM.1 3 (lv1 := [some (aR 66), some (aI v1), some (aI x)]) (s1 := [aI (h 66 5), aI x]) (h1 := h) rfl ?_
  refine A_icmp hM.1 rfl rfl (fun hc => ?_) (fun hc => ?_)
  · replace hh := OK_t hh hc
    refine A_mask [false, false, false] (lv1 := [none, none, none]) rfl ?_
    exact hout1 () hh
  · replace hh := OK_f hh hc
    refine A_blk hM.1 2 (lv1 := [some (aR 66), some (aI v1), some (aI x)]) (s1 := [aI 10, aI x]) (h1 := h) rfl ?_
    refine A_icmp hM.1 rfl rfl (fun hc => ?_) (fun hc => ?_)
    · replace hh := OK_t hh hc
      refine A_mask [false, false, false] (lv1 := [none, none, none]) rfl ?_
      exact hout1 () hh
    · replace hh := OK_f hh hc
      refine A_blk hM.1 3 (lv1 := [some (aR 66), some (aI v1), some (aI x)]) (s1 := [aI x, aR 69]) (h1 := h) rfl ?_
      obtain ⟨g1, hh⟩ := OK_g hh
      refine A_ald hM.1 rfl (Or.inl ⟨rfl, rfl⟩) rfl (by decide) rfl g1 ?_
      refine A_blk hM.1 1 (lv1 := [some (aR 66), some (aI v1), some (aI x)]) (s1 := [aI v1, aI (h 69 ((w32 x).toNat))]) (h1 := h) rfl ?_
      refine A_icmp hM.1 rfl rfl (fun hc => ?_) (fun hc => ?_)
      · replace hh := OK_t hh hc
        refine A_blk hM.1 1 (lv1 := [some (aR 66), some (aI v1), some (aI (x + 1))]) (s1 := []) (h1 := h) rfl ?_
        refine A_go hM.1 rfl rfl ?_
        exact hin (x + 1) hh
      · replace hh := OK_f hh hc
        refine A_mask [false, false, true] (lv1 := [none, none, some (aI x)]) rfl ?_
        exact hout0 x hh

set_option maxRecDepth 20000 in
set_option maxHeartbeats 4000000 in
theorem c_X5_placeOf {k0 : K0} {G : Gx} {Qp : Option AV → Fx → Hp → Prop} (hM : MB (KM k0 0 0 Qp) G M_X5_placeOf 1) (v1 : Int) (h : Hp)   {P : Int → Prop} (hq : ∀ z : Int, P z → Qp (some (aI z)) FN h) (hh : OK (X5_placeOf v1 h) P) : ATk (KM k0 0 0 Qp) FN 0 0 M_X5_placeOf 0 [some (aR 66), some (aI v1), none] [] h := by
  unfold X5_placeOf at hh
  refine A_blk hM.1 2 (lv1 := [some (aR 66), some (aI v1), some (aI 0)]) (s1 := []) (h1 := h) rfl ?_
  refine iter_ok (s := 0) (Gp := fun z => ATk (KM k0 0 0 Qp) FN 0 0 M_X5_placeOf 2 [some (aR 66), some (aI v1), some (aI z)] [] h) (E := fun z => (∀ y, z = (.inl y) → ATk (KM k0 0 0 Qp) FN 0 0 M_X5_placeOf 15 [none, none, some (aI y)] [] h) ∧ (∀ y, z = (.inr y) → ATk (KM k0 0 0 Qp) FN 0 0 M_X5_placeOf 19 [none, none, none] [] h)) (fun z P1 g1 g2 g3 => c_X5_placeOf_l2 hM v1 h z g2 (fun y hy => (g3 (.inl y) hy).1 y rfl) (fun y hy => (g3 (.inr y) hy).2 y rfl) g1) (OK_bind hh) (fun x2 hh => ?_)
  refine ⟨fun y e => ?_, fun y e => ?_⟩
  · obtain ⟨y3, rfl⟩ : ∃ z, z = y := ⟨_, rfl⟩
    subst e
    refine A_blk hM.1 1 (lv1 := [none, none, some (aI y3)]) (s1 := [aI y3]) (h1 := h) rfl ?_
    exact A_reti hM.1 rfl rfl rfl (hq y3 hh)
  · obtain ⟨y4, rfl⟩ : ∃ z, z = y := ⟨_, rfl⟩
    subst e
    refine A_blk hM.1 1 (lv1 := [none, none, none]) (s1 := [aI (-1)]) (h1 := h) rfl ?_
    exact A_reti hM.1 rfl rfl rfl (hq (-1) hh)

set_option maxRecDepth 20000 in
set_option maxHeartbeats 4000000 in
theorem ct_X5_placeOf {G : Gx} (v1 : Int) (h : Hp)   {P : Int → Prop} (hh : OK (X5_placeOf v1 h) P) : CT G yX5_placeOf M_X5_placeOf 1 0 0 FN h [aR 66, aI v1] (fun r F' h' => F' = FN ∧ ∃ z, r = some (aI z) ∧ h' = h ∧ P z) :=
  CT.of (by decide +kernel) rfl (Nat.le_of_ble_eq_true rfl) k_X5_placeOf fun k0 _ _ hM => c_X5_placeOf hM v1 h (fun z hz => ⟨rfl, z, rfl, rfl, hz⟩) hh

theorem mi_X5_gather : MIv yX5_gather M_X5_gather 1 := ⟨⟨(mem_GW 1305 (by decide +kernel) rfl), (mem_GW 132 (by decide +kernel) rfl), by decide +kernel, by decide +kernel, by decide +kernel, by decide⟩, (mem_GW 1304 (by decide +kernel) rfl), (mem_GW 37 (by decide +kernel) rfl)⟩
set_option maxRecDepth 20000 in
set_option maxHeartbeats 4000000 in
theorem c_X5_gather_j34 {k0 : K0} {G : Gx} {Qp : Option AV → Fx → Hp → Prop} (hM : MB (KM k0 0 0 Qp) G M_X5_gather 3) (v1 : Int) (v2 : Int) (h : Hp)   {P : ((Int × Hp) ⊕ (Hp)) → Prop} (hin : ∀ y : Int × Hp, P (.inl y) → ATk (KM k0 0 0 Qp) FN 0 0 M_X5_gather 5 [some (aR 66), some (aI v1), some (aI y.1), none, none] [] y.2) (hout0 : ∀ y : Hp, P (.inr y) → ATk (KM k0 0 0 Qp) FN 0 0 M_X5_gather 36 [some (aR 66), none, none, none, none] [] y) (hh : OK (X5_gather_j34 v1 v2 h) P) : ATk (KM k0 0 0 Qp) FN 0 0 M_X5_gather 34 [some (aR 66), some (aI v1), some (aI v2), none, none] [] h := by
  unfold X5_gather_j34 at hh
  refine A_blk hM.1 1 (lv1 := [some (aR 66), some (aI v1), some (aI (v2 + 1)), none, none]) (s1 := []) (h1 := h) rfl ?_
  refine A_go hM.1 rfl rfl ?_
  exact hin (v2 + 1, h) hh

set_option maxRecDepth 20000 in
set_option maxHeartbeats 4000000 in
theorem c_X5_gather_l5 {k0 : K0} {G : Gx} {Qp : Option AV → Fx → Hp → Prop} (hM : MB (KM k0 0 0 Qp) G M_X5_gather 3) (v1 : Int) (x : Int × Hp)   {P : ((Int × Hp) ⊕ (Hp)) → Prop} (hin : ∀ y : Int × Hp, P (.inl y) → ATk (KM k0 0 0 Qp) FN 0 0 M_X5_gather 5 [some (aR 66), some (aI v1), some (aI y.1), none, none] [] y.2) (hout0 : ∀ y : Hp, P (.inr y) → ATk (KM k0 0 0 Qp) FN 0 0 M_X5_gather 36 [some (aR 66), none, none, none, none] [] y) (hh : OK (X5_gather_l5 v1 x) P) : ATk (KM k0 0 0 Qp) FN 0 0 M_X5_gather 5 [some (aR 66), some (aI v1), some (aI x.1), none, none] [] x.2 := by
  unfold X5_gather_l5 at hh
  refine A_blk hM.1 3 (lv1 := [some (aR 66), some (aI v1), some (aI x.1), none, none]) (s1 := [aR 3, aI x.1]) (h1 := x.2) rfl ?_
  refine A_callV hM rfl rfl (mem_GW 1306 (by decide +kernel) rfl) mi_X7_bits (As := []) (rest := [aI x.1]) (ct_X7_bits x.2 (OK_bind hh)) (by decide) ⟨Nat.zero_le _, Nat.zero_le _⟩ rfl rfl (Nat.le_of_ble_eq_true rfl) (by decide) rfl (by decide) rfl (fun r F' h' hq1 => ?_)
  obtain ⟨rfl, r1, rfl, e9, hh⟩ := hq1
  subst h'
  refine A_icmp hM.1 rfl rfl (fun hc => ?_) (fun hc => ?_)
  · replace hh := OK_t hh hc
    refine A_mask [true, false, false, true, true] (lv1 := [some (aR 66), none, none, none, none]) rfl ?_
    exact hout0 x.2 hh
  · replace hh := OK_f hh hc
    refine A_blk hM.1 3 (lv1 := [some (aR 66), some (aI v1), some (aI x.1), none, none]) (s1 := [aI x.1, aR 3]) (h1 := x.2) rfl ?_
    refine A_callV hM rfl rfl (mem_GW 1307 (by decide +kernel) rfl) mi_X7_bitWork (As := [aI x.1]) (rest := []) (ct_X7_bitWork x.1 x.2 (OK_bind hh)) (by decide) ⟨Nat.zero_le _, Nat.zero_le _⟩ rfl rfl (Nat.le_of_ble_eq_true rfl) (by decide) rfl (by decide) rfl (fun r F' h' hq1 => ?_)
    obtain ⟨rfl, r2, rfl, e9, hh⟩ := hq1
    subst h'
    refine A_blk hM.1 1 (lv1 := [some (aR 66), some (aI v1), some (aI x.1), none, none]) (s1 := [aI v1, aI r2]) (h1 := x.2) rfl ?_
    refine A_icmp hM.1 rfl rfl (fun hc => ?_) (fun hc => ?_)
    · replace hh := OK_t hh hc
      exact c_X5_gather_j34 hM v1 x.1 x.2 hin hout0 hh
    · replace hh := OK_f hh hc
      refine A_blk hM.1 5 (lv1 := [some (aR 66), some (aI v1), some (aI x.1), none, none]) (s1 := [aI x.1, aI (x.2 66 5), aR 69]) (h1 := x.2) rfl ?_
      refine A_callSN (host := "QuotedBooks") hM rfl rfl (mem_NW 1292 (by decide +kernel) rfl) mi_X11_put ms_X11_put (As := [aR 69, aI (x.2 66 5), aI x.1]) (rest := []) (ct_X11_put 69 10 (x.2 66 5) x.1 x.2 rfl rfl (OK_bind hh)) (by decide) ⟨Nat.zero_le _, Nat.zero_le _⟩ rfl rfl (Nat.le_of_ble_eq_true rfl) (fun r F' h' hq1 => ?_)
      obtain ⟨rfl, rfl, hh⟩ := hq1
      obtain ⟨r3, rfl⟩ : ∃ z, z = h' := ⟨_, rfl⟩
      refine A_blk hM.1 5 (lv1 := [some (aR 66), some (aI v1), some (aI x.1), none, none]) (s1 := [aI 0, aI (r3 66 5), aR 70]) (h1 := r3) rfl ?_
      refine A_callSN (host := "QuotedBooks") hM rfl rfl (mem_NW 1292 (by decide +kernel) rfl) mi_X11_put ms_X11_put (As := [aR 70, aI (r3 66 5), aI 0]) (rest := []) (ct_X11_put 70 10 (r3 66 5) 0 r3 rfl rfl (OK_bind hh)) (by decide) ⟨Nat.zero_le _, Nat.zero_le _⟩ rfl rfl (Nat.le_of_ble_eq_true rfl) (fun r F' h' hq1 => ?_)
      obtain ⟨rfl, rfl, hh⟩ := hq1
      obtain ⟨r4, rfl⟩ : ∃ z, z = h' := ⟨_, rfl⟩
      refine A_blk hM.1 6 (lv1 := [some (aR 66), some (aI v1), some (aI x.1), none, none]) (s1 := []) (h1 := setH r4 66 5 ((r4 66 5) + 1)) rfl ?_
      exact c_X5_gather_j34 hM v1 x.1 (setH r4 66 5 ((r4 66 5) + 1)) hin hout0 hh

set_option maxRecDepth 20000 in
set_option maxHeartbeats 4000000 in
theorem c_X5_gather_j77 {k0 : K0} {G : Gx} {Qp : Option AV → Fx → Hp → Prop} (hM : MB (KM k0 0 0 Qp) G M_X5_gather 3) (v2 : Int) (h : Hp)   {P : ((Int × Hp) ⊕ (Hp)) → Prop} (hin : ∀ y : Int × Hp, P (.inl y) → ATk (KM k0 0 0 Qp) FN 0 0 M_X5_gather 38 [some (aR 66), none, some (aI y.1), none, none] [] y.2) (hout0 : ∀ y : Hp, P (.inr y) → ATk (KM k0 0 0 Qp) FN 0 0 M_X5_gather 79 [none, none, none, none, none] [] y) (hh : OK (X5_gather_j77 v2 h) P) : ATk (KM k0 0 0 Qp) FN 0 0 M_X5_gather 77 [some (aR 66), none, some (aI v2), none, none] [] h := by
  unfold X5_gather_j77 at hh
  refine A_blk hM.1 1 (lv1 := [some (aR 66), none, some (aI (v2 + 1)), none, none]) (s1 := []) (h1 := h) rfl ?_
  refine A_go hM.1 rfl rfl ?_
  exact hin (v2 + 1, h) hh

set_option maxRecDepth 20000 in
set_option maxHeartbeats 4000000 in
theorem c_X5_gather_l38 {k0 : K0} {G : Gx} {Qp : Option AV → Fx → Hp → Prop} (hM : MB (KM k0 0 0 Qp) G M_X5_gather 3) (x : Int × Hp)   {P : ((Int × Hp) ⊕ (Hp)) → Prop} (hin : ∀ y : Int × Hp, P (.inl y) → ATk (KM k0 0 0 Qp) FN 0 0 M_X5_gather 38 [some (aR 66), none, some (aI y.1), none, none] [] y.2) (hout0 : ∀ y : Hp, P (.inr y) → ATk (KM k0 0 0 Qp) FN 0 0 M_X5_gather 79 [none, none, none, none, none] [] y) (hh : OK (X5_gather_l38 x) P) : ATk (KM k0 0 0 Qp) FN 0 0 M_X5_gather 38 [some (aR 66), none, some (aI x.1), none, none] [] x.2 := by
  unfold X5_gather_l38 at hh
  refine A_blk hM.1 3 (lv1 := [some (aR 66), none, some (aI x.1), none, none]) (s1 := [aI (x.2 66 2), aI x.1]) (h1 := x.2) rfl ?_
  refine A_icmp hM.1 rfl rfl (fun hc => ?_) (fun hc => ?_)
  · replace hh := OK_t hh hc
    refine A_mask [false, true, false, true, true] (lv1 := [none, none, none, none, none]) rfl ?_
    exact hout0 x.2 hh
  · replace hh := OK_f hh hc
    refine A_blk hM.1 2 (lv1 := [some (aR 66), none, some (aI x.1), none, none]) (s1 := [aI 60, aI x.1]) (h1 := x.2) rfl ?_
    refine A_icmp hM.1 rfl rfl (fun hc => ?_) (fun hc => ?_)
    · replace hh := OK_t hh hc
      refine A_mask [false, true, false, true, true] (lv1 := [none, none, none, none, none]) rfl ?_
      exact hout0 x.2 hh
    · replace hh := OK_f hh hc
      refine A_blk hM.1 4 (lv1 := [some (aR 66), none, some (aI x.1), none, none]) (s1 := [aI x.1, aR 67, aR 66]) (h1 := x.2) rfl ?_
      obtain ⟨g6, hh⟩ := OK_g hh
      refine A_ald hM.1 rfl (Or.inl ⟨rfl, rfl⟩) rfl (by decide) rfl g6 ?_
      refine A_callV hM rfl rfl (mem_GW 1308 (by decide +kernel) rfl) mi_X5_placeOf (As := [aI (x.2 67 ((w32 x.1).toNat))]) (rest := []) (ct_X5_placeOf (x.2 67 ((w32 x.1).toNat)) x.2 (OK_bind hh)) (by decide) ⟨Nat.zero_le _, Nat.zero_le _⟩ rfl rfl (Nat.le_of_ble_eq_true rfl) (by decide) rfl (by decide) rfl (fun r F' h' hq1 => ?_)
      obtain ⟨rfl, r7, rfl, e9, hh⟩ := hq1
      subst h'
      refine A_blk hM.1 5 (lv1 := [some (aR 66), none, some (aI x.1), some (aI r7), none]) (s1 := [aI x.1, aR 68, aR 66]) (h1 := x.2) rfl ?_
      obtain ⟨g8, hh⟩ := OK_g hh
      refine A_ald hM.1 rfl (Or.inl ⟨rfl, rfl⟩) rfl (by decide) rfl g8 ?_
      refine A_callV hM rfl rfl (mem_GW 1308 (by decide +kernel) rfl) mi_X5_placeOf (As := [aI (x.2 68 ((w32 x.1).toNat))]) (rest := []) (ct_X5_placeOf (x.2 68 ((w32 x.1).toNat)) x.2 (OK_bind hh)) (by decide) ⟨Nat.zero_le _, Nat.zero_le _⟩ rfl rfl (Nat.le_of_ble_eq_true rfl) (by decide) rfl (by decide) rfl (fun r F' h' hq1 => ?_)
      obtain ⟨rfl, r9, rfl, e9, hh⟩ := hq1
      subst h'
      refine A_blk hM.1 3 (lv1 := [some (aR 66), none, some (aI x.1), some (aI r7), some (aI r9)]) (s1 := [aI (-1), aI r7]) (h1 := x.2) rfl ?_
      refine A_icmp hM.1 rfl rfl (fun hc => ?_) (fun hc => ?_)
      · replace hh := OK_t hh hc
        refine A_mask [true, true, true, false, false] (lv1 := [some (aR 66), none, some (aI x.1), none, none]) rfl ?_
        exact c_X5_gather_j77 hM x.1 x.2 hin hout0 hh
      · replace hh := OK_f hh hc
        refine A_blk hM.1 2 (lv1 := [some (aR 66), none, some (aI x.1), some (aI r7), some (aI r9)]) (s1 := [aI (-1), aI r9]) (h1 := x.2) rfl ?_
        refine A_icmp hM.1 rfl rfl (fun hc => ?_) (fun hc => ?_)
        · replace hh := OK_t hh hc
          refine A_mask [true, true, true, false, false] (lv1 := [some (aR 66), none, some (aI x.1), none, none]) rfl ?_
          exact c_X5_gather_j77 hM x.1 x.2 hin hout0 hh
        · replace hh := OK_f hh hc
          refine A_blk hM.1 6 (lv1 := [some (aR 66), none, some (aI x.1), some (aI r7), some (aI r9)]) (s1 := [aI r9, aR 70, aI r9, aR 70]) (h1 := x.2) rfl ?_
          refine A_callSN (host := "QuotedBooks") hM rfl rfl (mem_NW 1291 (by decide +kernel) rfl) mi_X11_at ms_X11_at (As := [aR 70, aI r9]) (rest := [aI r9, aR 70]) (ct_X11_at 70 10 r9 x.2 rfl rfl (OK_bind hh)) (by decide) ⟨Nat.zero_le _, Nat.zero_le _⟩ rfl rfl (Nat.le_of_ble_eq_true rfl) (fun r F' h' hq1 => ?_)
          obtain ⟨rfl, r10, rfl, e9, hh⟩ := hq1
          subst h'
          refine A_blk hM.1 4 (lv1 := [some (aR 66), none, some (aI x.1), some (aI r7), some (aI r9)]) (s1 := [aI (or32 r10 (shl32 1 r7)), aI r9, aR 70]) (h1 := x.2) rfl ?_
          refine A_callSN (host := "QuotedBooks") hM rfl rfl (mem_NW 1292 (by decide +kernel) rfl) mi_X11_put ms_X11_put (As := [aR 70, aI r9, aI (or32 r10 (shl32 1 r7))]) (rest := []) (ct_X11_put 70 10 r9 (or32 r10 (shl32 1 r7)) x.2 rfl rfl (OK_bind hh)) (by decide) ⟨Nat.zero_le _, Nat.zero_le _⟩ rfl rfl (Nat.le_of_ble_eq_true rfl) (fun r F' h' hq1 => ?_)
          obtain ⟨rfl, rfl, hh⟩ := hq1
          obtain ⟨r11, rfl⟩ : ∃ z, z = h' := ⟨_, rfl⟩
          refine A_mask [true, true, true, false, false] (lv1 := [some (aR 66), none, some (aI x.1), none, none]) rfl ?_
          exact c_X5_gather_j77 hM x.1 r11 hin hout0 hh

set_option maxRecDepth 20000 in
set_option maxHeartbeats 4000000 in
theorem c_X5_gather {k0 : K0} {G : Gx} {Qp : Option AV → Fx → Hp → Prop} (hM : MB (KM k0 0 0 Qp) G M_X5_gather 3) (v1 : Int) (h : Hp)   {P : Hp → Prop} (hq : ∀ z : Hp, P z → Qp none FN z) (hh : OK (X5_gather v1 h) P) : ATk (KM k0 0 0 Qp) FN 0 0 M_X5_gather 0 [some (aR 66), some (aI v1), none, none, none] [] h := by
  unfold X5_gather at hh
  refine A_blk hM.1 5 (lv1 := [some (aR 66), some (aI v1), some (aI 0), none, none]) (s1 := []) (h1 := setH h 66 5 0) rfl ?_
  refine iter_ok (s := (0, setH h 66 5 0)) (Gp := fun z => ATk (KM k0 0 0 Qp) FN 0 0 M_X5_gather 5 [some (aR 66), some (aI v1), some (aI z.1), none, none] [] z.2) (E := fun z => ATk (KM k0 0 0 Qp) FN 0 0 M_X5_gather 36 [some (aR 66), none, none, none, none] [] z) (fun z P1 g1 g2 g3 => c_X5_gather_l5 hM v1 z g2 g3 g1) (OK_bind hh) (fun x5 hh => ?_)
  refine A_blk hM.1 2 (lv1 := [some (aR 66), none, some (aI 0), none, none]) (s1 := []) (h1 := x5) rfl ?_
  refine iter_ok (s := (0, x5)) (Gp := fun z => ATk (KM k0 0 0 Qp) FN 0 0 M_X5_gather 38 [some (aR 66), none, some (aI z.1), none, none] [] z.2) (E := fun z => ATk (KM k0 0 0 Qp) FN 0 0 M_X5_gather 79 [none, none, none, none, none] [] z) (fun z P1 g1 g2 g3 => c_X5_gather_l38 hM  z g2 g3 g1) (OK_bind hh) (fun x12 hh => ?_)
  exact A_retv hM.1 rfl rfl rfl (hq x12 hh)

set_option maxRecDepth 20000 in
set_option maxHeartbeats 4000000 in
theorem ct_X5_gather {G : Gx} (v1 : Int) (h : Hp)   {P : Hp → Prop} (hh : OK (X5_gather v1 h) P) : CT G yX5_gather M_X5_gather 3 0 0 FN h [aR 66, aI v1] (fun r F' h' => F' = FN ∧ r = none ∧ P h') :=
  CT.of (by decide +kernel) rfl (Nat.le_of_ble_eq_true rfl) k_X5_gather fun k0 _ _ hM => c_X5_gather hM v1 h (fun z hz => ⟨rfl, rfl, hz⟩) hh

theorem mi_X5_fillGains : MIv yX5_fillGains M_X5_fillGains 0 := ⟨⟨(mem_GW 1320 (by decide +kernel) rfl), (mem_GW 132 (by decide +kernel) rfl), by decide +kernel, by decide +kernel, by decide +kernel, by decide⟩, (mem_GW 1319 (by decide +kernel) rfl), (mem_GW 40 (by decide +kernel) rfl)⟩
set_option maxRecDepth 20000 in
set_option maxHeartbeats 4000000 in
theorem c_X5_fillGains_l48 {k0 : K0} {G : Gx} {Qp : Option AV → Fx → Hp → Prop} (hM : MB (KM k0 0 0 Qp) G M_X5_fillGains 5) (v1 : Int) (x : Int × Hp)   {P : ((Int × Hp) ⊕ (Hp)) → Prop} (hin : ∀ y : Int × Hp, P (.inl y) → ATk (KM k0 0 0 Qp) FN 0 0 M_X5_fillGains 48 [some (aR 66), some (aI v1), none, some (aI y.1), none] [] y.2) (hout0 : ∀ y : Hp, P (.inr y) → ATk (KM k0 0 0 Qp) FN 0 0 M_X5_fillGains 108 [some (aR 66), some (aI v1), none, none, none] [] y) (hh : OK (X5_fillGains_l48 v1 x) P) : ATk (KM k0 0 0 Qp) FN 0 0 M_X5_fillGains 48 [some (aR 66), some (aI v1), none, some (aI x.1), none] [] x.2 := by
  unfold X5_fillGains_l48 at hh
  refine A_blk hM.1 3 (lv1 := [some (aR 66), some (aI v1), none, some (aI x.1), none]) (s1 := [aI (x.2 66 5), aI x.1]) (h1 := x.2) rfl ?_
  refine A_icmp hM.1 rfl rfl (fun hc => ?_) (fun hc => ?_)
  · replace hh := OK_t hh hc
    refine A_mask [true, true, true, false, true] (lv1 := [some (aR 66), some (aI v1), none, none, none]) rfl ?_
    exact hout0 x.2 hh
  · replace hh := OK_f hh hc
    refine A_blk hM.1 3 (lv1 := [some (aR 66), some (aI v1), none, some (aI x.1), none]) (s1 := [aI x.1, aR 69]) (h1 := x.2) rfl ?_
    refine A_callSN (host := "QuotedBooks") hM rfl rfl (mem_NW 1291 (by decide +kernel) rfl) mi_X11_at ms_X11_at (As := [aR 69, aI x.1]) (rest := []) (ct_X11_at 69 10 x.1 x.2 rfl rfl (OK_bind hh)) (by decide) ⟨Nat.zero_le _, Nat.zero_le _⟩ rfl rfl (Nat.le_of_ble_eq_true rfl) (fun r F' h' hq1 => ?_)
    obtain ⟨rfl, r11, rfl, e9, hh⟩ := hq1
    subst h'
    refine A_blk hM.1 7 (lv1 := [some (aR 66), some (aI v1), none, some (aI x.1), some (aI r11)]) (s1 := [aI r11, aR 3, aI 99, aR 28]) (h1 := x.2) rfl ?_
    refine A_callV hM rfl rfl (mem_GW 1321 (by decide +kernel) rfl) mi_X7_bitBook (As := [aI r11]) (rest := [aI 99, aR 28]) (ct_X7_bitBook r11 x.2 (OK_bind hh)) (by decide) ⟨Nat.zero_le _, Nat.zero_le _⟩ rfl rfl (Nat.le_of_ble_eq_true rfl) (by decide) rfl (by decide) rfl (fun r F' h' hq1 => ?_)
    obtain ⟨rfl, r12, rfl, e9, hh⟩ := hq1
    subst h'
    refine A_callV hM rfl rfl (mem_GW 1322 (by decide +kernel) rfl) mi_X10_let (As := [aI 99, aI r12]) (rest := []) (ct_X10_let 28 99 r12 x.2 (by decide) (OK_bind hh)) (by decide) ⟨Nat.zero_le _, Nat.zero_le _⟩ rfl rfl (Nat.le_of_ble_eq_true rfl) (by decide) rfl (by decide) rfl (fun r F' h' hq1 => ?_)
    obtain ⟨rfl, rfl, hh⟩ := hq1
    obtain ⟨r13, rfl⟩ : ∃ z, z = h' := ⟨_, rfl⟩
    refine A_blk hM.1 6 (lv1 := [some (aR 66), some (aI v1), none, some (aI x.1), some (aI r11)]) (s1 := [aI r11, aR 3, aI 116, aR 28]) (h1 := r13) rfl ?_
    refine A_callV hM rfl rfl (mem_GW 1323 (by decide +kernel) rfl) mi_X7_bitSubject (As := [aI r11]) (rest := [aI 116, aR 28]) (ct_X7_bitSubject r11 r13 (OK_bind hh)) (by decide) ⟨Nat.zero_le _, Nat.zero_le _⟩ rfl rfl (Nat.le_of_ble_eq_true rfl) (by decide) rfl (by decide) rfl (fun r F' h' hq1 => ?_)
    obtain ⟨rfl, r14, rfl, e9, hh⟩ := hq1
    subst h'
    refine A_callV hM rfl rfl (mem_GW 1322 (by decide +kernel) rfl) mi_X10_let (As := [aI 116, aI r14]) (rest := []) (ct_X10_let 28 116 r14 r13 (by decide) (OK_bind hh)) (by decide) ⟨Nat.zero_le _, Nat.zero_le _⟩ rfl rfl (Nat.le_of_ble_eq_true rfl) (by decide) rfl (by decide) rfl (fun r F' h' hq1 => ?_)
    obtain ⟨rfl, rfl, hh⟩ := hq1
    obtain ⟨r15, rfl⟩ : ∃ z, z = h' := ⟨_, rfl⟩
    refine A_blk hM.1 8 (lv1 := [some (aR 66), some (aI v1), none, some (aI x.1), some (aI r11)]) (s1 := [aI r11, aR 3, aR 3, aI 122, aR 28]) (h1 := r15) rfl ?_
    refine A_callV hM rfl rfl (mem_GW 1324 (by decide +kernel) rfl) mi_X7_bitWriter (As := [aI r11]) (rest := [aR 3, aI 122, aR 28]) (ct_X7_bitWriter r11 r15 (OK_bind hh)) (by decide) ⟨Nat.zero_le _, Nat.zero_le _⟩ rfl rfl (Nat.le_of_ble_eq_true rfl) (by decide) rfl (by decide) rfl (fun r F' h' hq1 => ?_)
    obtain ⟨rfl, r16, rfl, e9, hh⟩ := hq1
    subst h'
    refine A_callV hM rfl rfl (mem_GW 1325 (by decide +kernel) rfl) mi_X7_writerYear (As := [aI r16]) (rest := [aI 122, aR 28]) (ct_X7_writerYear r16 r15 (OK_bind hh)) (by decide) ⟨Nat.zero_le _, Nat.zero_le _⟩ rfl rfl (Nat.le_of_ble_eq_true rfl) (by decide) rfl (by decide) rfl (fun r F' h' hq1 => ?_)
    obtain ⟨rfl, r17, rfl, e9, hh⟩ := hq1
    subst h'
    refine A_callV hM rfl rfl (mem_GW 1322 (by decide +kernel) rfl) mi_X10_let (As := [aI 122, aI r17]) (rest := []) (ct_X10_let 28 122 r17 r15 (by decide) (OK_bind hh)) (by decide) ⟨Nat.zero_le _, Nat.zero_le _⟩ rfl rfl (Nat.le_of_ble_eq_true rfl) (by decide) rfl (by decide) rfl (fun r F' h' hq1 => ?_)
    obtain ⟨rfl, rfl, hh⟩ := hq1
    obtain ⟨r18, rfl⟩ : ∃ z, z = h' := ⟨_, rfl⟩
    refine A_blk hM.1 6 (lv1 := [some (aR 66), some (aI v1), none, some (aI x.1), some (aI r11)]) (s1 := [aI r11, aR 3, aI 105, aR 28]) (h1 := r18) rfl ?_
    refine A_callV hM rfl rfl (mem_GW 1326 (by decide +kernel) rfl) mi_X7_bitSize (As := [aI r11]) (rest := [aI 105, aR 28]) (ct_X7_bitSize r11 r18 (OK_bind hh)) (by decide) ⟨Nat.zero_le _, Nat.zero_le _⟩ rfl rfl (Nat.le_of_ble_eq_true rfl) (by decide) rfl (by decide) rfl (fun r F' h' hq1 => ?_)
    obtain ⟨rfl, r19, rfl, e9, hh⟩ := hq1
    subst h'
    refine A_callV hM rfl rfl (mem_GW 1322 (by decide +kernel) rfl) mi_X10_let (As := [aI 105, aI r19]) (rest := []) (ct_X10_let 28 105 r19 r18 (by decide) (OK_bind hh)) (by decide) ⟨Nat.zero_le _, Nat.zero_le _⟩ rfl rfl (Nat.le_of_ble_eq_true rfl) (by decide) rfl (by decide) rfl (fun r F' h' hq1 => ?_)
    obtain ⟨rfl, rfl, hh⟩ := hq1
    obtain ⟨r20, rfl⟩ : ∃ z, z = h' := ⟨_, rfl⟩
    refine A_blk hM.1 12 (lv1 := [some (aR 66), some (aI v1), none, some (aI x.1), some (aI r11)]) (s1 := [aI 1000, aI (-1000), aI 112, aR 28, aI ((v1 * 10) + x.1), aR 71]) (h1 := r20) rfl ?_
    refine A_callV hM rfl rfl (mem_GW 1327 (by decide +kernel) rfl) mi_X10_value (As := [aI 112, aI (-1000), aI 1000]) (rest := [aI ((v1 * 10) + x.1), aR 71]) (ct_X10_value 28 112 (-1000) 1000 r20 (by decide) (OK_bind hh)) (by decide) ⟨Nat.zero_le _, Nat.zero_le _⟩ rfl rfl (Nat.le_of_ble_eq_true rfl) (by decide) rfl (by decide) rfl (fun r F' h' hq1 => ?_)
    obtain ⟨rfl, r21, rfl, e9, hh⟩ := hq1
    subst h'
    refine A_callSN (host := "QuotedBooks") hM rfl rfl (mem_NW 1292 (by decide +kernel) rfl) mi_X11_put ms_X11_put (As := [aR 71, aI ((v1 * 10) + x.1), aI r21.1]) (rest := []) (ct_X11_put 71 100 ((v1 * 10) + x.1) r21.1 r21.2 rfl rfl (OK_bind hh)) (by decide) ⟨Nat.zero_le _, Nat.zero_le _⟩ rfl rfl (Nat.le_of_ble_eq_true rfl) (fun r F' h' hq1 => ?_)
    obtain ⟨rfl, rfl, hh⟩ := hq1
    obtain ⟨r22, rfl⟩ : ∃ z, z = h' := ⟨_, rfl⟩
    refine A_blk hM.1 1 (lv1 := [some (aR 66), some (aI v1), none, some (aI (x.1 + 1)), some (aI r11)]) (s1 := []) (h1 := r22) rfl ?_
    refine A_go hM.1 rfl rfl ?_
    refine A_mask [true, true, true, true, false] (lv1 := [some (aR 66), some (aI v1), none, some (aI (x.1 + 1)), none]) rfl ?_
    exact hin (x.1 + 1, r22) hh

set_option maxRecDepth 20000 in
set_option maxHeartbeats 4000000 in
theorem c_X5_fillGains_l2 {k0 : K0} {G : Gx} {Qp : Option AV → Fx → Hp → Prop} (hM : MB (KM k0 0 0 Qp) G M_X5_fillGains 5) (x : Int × Hp)   {P : ((Int × Hp) ⊕ (Hp)) → Prop} (hin : ∀ y : Int × Hp, P (.inl y) → ATk (KM k0 0 0 Qp) FN 0 0 M_X5_fillGains 2 [some (aR 66), some (aI y.1), none, none, none] [] y.2) (hout0 : ∀ y : Hp, P (.inr y) → ATk (KM k0 0 0 Qp) FN 0 0 M_X5_fillGains 110 [none, none, none, none, none] [] y) (hh : OK (X5_fillGains_l2 x) P) : ATk (KM k0 0 0 Qp) FN 0 0 M_X5_fillGains 2 [some (aR 66), some (aI x.1), none, none, none] [] x.2 := by
  unfold X5_fillGains_l2 at hh
  refine A_blk hM.1 3 (lv1 := [some (aR 66), some (aI x.1), none, none, none]) (s1 := [aI (x.2 66 5), aI x.1]) (h1 := x.2) rfl ?_
  refine A_icmp hM.1 rfl rfl (fun hc => ?_) (fun hc => ?_)
  · replace hh := OK_t hh hc
    refine A_mask [false, false, true, true, true] (lv1 := [none, none, none, none, none]) rfl ?_
    exact hout0 x.2 hh
  · replace hh := OK_f hh hc
    refine A_blk hM.1 3 (lv1 := [some (aR 66), some (aI x.1), none, none, none]) (s1 := [aI x.1, aR 69]) (h1 := x.2) rfl ?_
    refine A_callSN (host := "QuotedBooks") hM rfl rfl (mem_NW 1291 (by decide +kernel) rfl) mi_X11_at ms_X11_at (As := [aR 69, aI x.1]) (rest := []) (ct_X11_at 69 10 x.1 x.2 rfl rfl (OK_bind hh)) (by decide) ⟨Nat.zero_le _, Nat.zero_le _⟩ rfl rfl (Nat.le_of_ble_eq_true rfl) (fun r F' h' hq1 => ?_)
    obtain ⟨rfl, r1, rfl, e9, hh⟩ := hq1
    subst h'
    refine A_blk hM.1 7 (lv1 := [some (aR 66), some (aI x.1), some (aI r1), none, none]) (s1 := [aI r1, aR 3, aI 98, aR 28]) (h1 := x.2) rfl ?_
    refine A_callV hM rfl rfl (mem_GW 1321 (by decide +kernel) rfl) mi_X7_bitBook (As := [aI r1]) (rest := [aI 98, aR 28]) (ct_X7_bitBook r1 x.2 (OK_bind hh)) (by decide) ⟨Nat.zero_le _, Nat.zero_le _⟩ rfl rfl (Nat.le_of_ble_eq_true rfl) (by decide) rfl (by decide) rfl (fun r F' h' hq1 => ?_)
    obtain ⟨rfl, r2, rfl, e9, hh⟩ := hq1
    subst h'
    refine A_callV hM rfl rfl (mem_GW 1322 (by decide +kernel) rfl) mi_X10_let (As := [aI 98, aI r2]) (rest := []) (ct_X10_let 28 98 r2 x.2 (by decide) (OK_bind hh)) (by decide) ⟨Nat.zero_le _, Nat.zero_le _⟩ rfl rfl (Nat.le_of_ble_eq_true rfl) (by decide) rfl (by decide) rfl (fun r F' h' hq1 => ?_)
    obtain ⟨rfl, rfl, hh⟩ := hq1
    obtain ⟨r3, rfl⟩ : ∃ z, z = h' := ⟨_, rfl⟩
    refine A_blk hM.1 6 (lv1 := [some (aR 66), some (aI x.1), some (aI r1), none, none]) (s1 := [aI r1, aR 3, aI 115, aR 28]) (h1 := r3) rfl ?_
    refine A_callV hM rfl rfl (mem_GW 1323 (by decide +kernel) rfl) mi_X7_bitSubject (As := [aI r1]) (rest := [aI 115, aR 28]) (ct_X7_bitSubject r1 r3 (OK_bind hh)) (by decide) ⟨Nat.zero_le _, Nat.zero_le _⟩ rfl rfl (Nat.le_of_ble_eq_true rfl) (by decide) rfl (by decide) rfl (fun r F' h' hq1 => ?_)
    obtain ⟨rfl, r4, rfl, e9, hh⟩ := hq1
    subst h'
    refine A_callV hM rfl rfl (mem_GW 1322 (by decide +kernel) rfl) mi_X10_let (As := [aI 115, aI r4]) (rest := []) (ct_X10_let 28 115 r4 r3 (by decide) (OK_bind hh)) (by decide) ⟨Nat.zero_le _, Nat.zero_le _⟩ rfl rfl (Nat.le_of_ble_eq_true rfl) (by decide) rfl (by decide) rfl (fun r F' h' hq1 => ?_)
    obtain ⟨rfl, rfl, hh⟩ := hq1
    obtain ⟨r5, rfl⟩ : ∃ z, z = h' := ⟨_, rfl⟩
    refine A_blk hM.1 8 (lv1 := [some (aR 66), some (aI x.1), some (aI r1), none, none]) (s1 := [aI r1, aR 3, aR 3, aI 121, aR 28]) (h1 := r5) rfl ?_
    refine A_callV hM rfl rfl (mem_GW 1324 (by decide +kernel) rfl) mi_X7_bitWriter (As := [aI r1]) (rest := [aR 3, aI 121, aR 28]) (ct_X7_bitWriter r1 r5 (OK_bind hh)) (by decide) ⟨Nat.zero_le _, Nat.zero_le _⟩ rfl rfl (Nat.le_of_ble_eq_true rfl) (by decide) rfl (by decide) rfl (fun r F' h' hq1 => ?_)
    obtain ⟨rfl, r6, rfl, e9, hh⟩ := hq1
    subst h'
    refine A_callV hM rfl rfl (mem_GW 1325 (by decide +kernel) rfl) mi_X7_writerYear (As := [aI r6]) (rest := [aI 121, aR 28]) (ct_X7_writerYear r6 r5 (OK_bind hh)) (by decide) ⟨Nat.zero_le _, Nat.zero_le _⟩ rfl rfl (Nat.le_of_ble_eq_true rfl) (by decide) rfl (by decide) rfl (fun r F' h' hq1 => ?_)
    obtain ⟨rfl, r7, rfl, e9, hh⟩ := hq1
    subst h'
    refine A_callV hM rfl rfl (mem_GW 1322 (by decide +kernel) rfl) mi_X10_let (As := [aI 121, aI r7]) (rest := []) (ct_X10_let 28 121 r7 r5 (by decide) (OK_bind hh)) (by decide) ⟨Nat.zero_le _, Nat.zero_le _⟩ rfl rfl (Nat.le_of_ble_eq_true rfl) (by decide) rfl (by decide) rfl (fun r F' h' hq1 => ?_)
    obtain ⟨rfl, rfl, hh⟩ := hq1
    obtain ⟨r8, rfl⟩ : ∃ z, z = h' := ⟨_, rfl⟩
    refine A_blk hM.1 6 (lv1 := [some (aR 66), some (aI x.1), some (aI r1), none, none]) (s1 := [aI r1, aR 3, aI 108, aR 28]) (h1 := r8) rfl ?_
    refine A_callV hM rfl rfl (mem_GW 1326 (by decide +kernel) rfl) mi_X7_bitSize (As := [aI r1]) (rest := [aI 108, aR 28]) (ct_X7_bitSize r1 r8 (OK_bind hh)) (by decide) ⟨Nat.zero_le _, Nat.zero_le _⟩ rfl rfl (Nat.le_of_ble_eq_true rfl) (by decide) rfl (by decide) rfl (fun r F' h' hq1 => ?_)
    obtain ⟨rfl, r9, rfl, e9, hh⟩ := hq1
    subst h'
    refine A_callV hM rfl rfl (mem_GW 1322 (by decide +kernel) rfl) mi_X10_let (As := [aI 108, aI r9]) (rest := []) (ct_X10_let 28 108 r9 r8 (by decide) (OK_bind hh)) (by decide) ⟨Nat.zero_le _, Nat.zero_le _⟩ rfl rfl (Nat.le_of_ble_eq_true rfl) (by decide) rfl (by decide) rfl (fun r F' h' hq1 => ?_)
    obtain ⟨rfl, rfl, hh⟩ := hq1
    obtain ⟨r10, rfl⟩ : ∃ z, z = h' := ⟨_, rfl⟩
    refine A_blk hM.1 2 (lv1 := [some (aR 66), some (aI x.1), some (aI r1), some (aI 0), none]) (s1 := []) (h1 := r10) rfl ?_
    refine A_mask [true, true, false, true, true] (lv1 := [some (aR 66), some (aI x.1), none, some (aI 0), none]) rfl ?_
    refine iter_ok (s := (0, r10)) (Gp := fun z => ATk (KM k0 0 0 Qp) FN 0 0 M_X5_fillGains 48 [some (aR 66), some (aI x.1), none, some (aI z.1), none] [] z.2) (E := fun z => ATk (KM k0 0 0 Qp) FN 0 0 M_X5_fillGains 108 [some (aR 66), some (aI x.1), none, none, none] [] z) (fun z P1 g1 g2 g3 => c_X5_fillGains_l48 hM x.1 z g2 g3 g1) (OK_bind hh) (fun x23 hh => ?_)
    refine A_blk hM.1 1 (lv1 := [some (aR 66), some (aI (x.1 + 1)), none, none, none]) (s1 := []) (h1 := x23) rfl ?_
    refine A_go hM.1 rfl rfl ?_
    exact hin (x.1 + 1, x23) hh

set_option maxRecDepth 20000 in
set_option maxHeartbeats 4000000 in
theorem c_X5_fillGains {k0 : K0} {G : Gx} {Qp : Option AV → Fx → Hp → Prop} (hM : MB (KM k0 0 0 Qp) G M_X5_fillGains 5) (h : Hp)   {P : Hp → Prop} (hq : ∀ z : Hp, P z → Qp none FN z) (hh : OK (X5_fillGains h) P) : ATk (KM k0 0 0 Qp) FN 0 0 M_X5_fillGains 0 [some (aR 66), none, none, none, none] [] h := by
  unfold X5_fillGains at hh
  refine A_blk hM.1 2 (lv1 := [some (aR 66), some (aI 0), none, none, none]) (s1 := []) (h1 := h) rfl ?_
  refine iter_ok (s := (0, h)) (Gp := fun z => ATk (KM k0 0 0 Qp) FN 0 0 M_X5_fillGains 2 [some (aR 66), some (aI z.1), none, none, none] [] z.2) (E := fun z => ATk (KM k0 0 0 Qp) FN 0 0 M_X5_fillGains 110 [none, none, none, none, none] [] z) (fun z P1 g1 g2 g3 => c_X5_fillGains_l2 hM  z g2 g3 g1) (OK_bind hh) (fun x24 hh => ?_)
  exact A_retv hM.1 rfl rfl rfl (hq x24 hh)

set_option maxRecDepth 20000 in
set_option maxHeartbeats 4000000 in
theorem ct_X5_fillGains {G : Gx} (h : Hp)   {P : Hp → Prop} (hh : OK (X5_fillGains h) P) : CT G yX5_fillGains M_X5_fillGains 5 0 0 FN h [aR 66] (fun r F' h' => F' = FN ∧ r = none ∧ P h') :=
  CT.of (by decide +kernel) rfl (Nat.le_of_ble_eq_true rfl) k_X5_fillGains fun k0 _ _ hM => c_X5_fillGains hM h (fun z hz => ⟨rfl, rfl, hz⟩) hh

theorem mi_X5_behind : MIv yX5_behind M_X5_behind 3 := ⟨⟨(mem_GW 1335 (by decide +kernel) rfl), (mem_GW 132 (by decide +kernel) rfl), by decide +kernel, by decide +kernel, by decide +kernel, by decide⟩, (mem_GW 1334 (by decide +kernel) rfl), (mem_GW 42 (by decide +kernel) rfl)⟩
set_option maxRecDepth 20000 in
set_option maxHeartbeats 4000000 in
theorem c_X5_behind_j16 {k0 : K0} {G : Gx} {Qp : Option AV → Fx → Hp → Prop} (hM : MB (KM k0 0 0 Qp) G M_X5_behind 2) (h : Hp)   {P : Int → Prop} (hq : ∀ z : Int, P z → Qp (some (aI z)) FN h) (hh : OK (X5_behind_j16 h) P) : ATk (KM k0 0 0 Qp) FN 0 0 M_X5_behind 16 [none, none, none, none, none] [] h := by
  unfold X5_behind_j16 at hh
  refine A_blk hM.1 1 (lv1 := [none, none, none, none, none]) (s1 := [aI (-1000000)]) (h1 := h) rfl ?_
  exact A_reti hM.1 rfl rfl rfl (hq (-1000000) hh)

set_option maxRecDepth 20000 in
set_option maxHeartbeats 4000000 in
theorem c_X5_behind {k0 : K0} {G : Gx} {Qp : Option AV → Fx → Hp → Prop} (hM : MB (KM k0 0 0 Qp) G M_X5_behind 2) (v1 : Int) (v2 : Int) (v3 : Int) (h : Hp)   {P : Int → Prop} (hq : ∀ z : Int, P z → Qp (some (aI z)) FN h) (hh : OK (X5_behind v1 v2 v3 h) P) : ATk (KM k0 0 0 Qp) FN 0 0 M_X5_behind 0 [some (aR 66), some (aI v1), some (aI v2), some (aI v3), none] [] h := by
  unfold X5_behind at hh
  refine A_blk hM.1 6 (lv1 := [some (aR 66), some (aI v1), some (aI v2), some (aI v3), none]) (s1 := [aI 1, aI (and32 (ushr32 v1 v3) 1)]) (h1 := h) rfl ?_
  refine A_icmp hM.1 rfl rfl (fun hc => ?_) (fun hc => ?_)
  · replace hh := OK_t hh hc
    refine A_mask [false, false, false, false, true] (lv1 := [none, none, none, none, none]) rfl ?_
    exact c_X5_behind_j16 hM h hq hh
  · replace hh := OK_f hh hc
    refine A_blk hM.1 3 (lv1 := [some (aR 66), some (aI v1), some (aI v2), some (aI v3), none]) (s1 := [aI v3, aR 70]) (h1 := h) rfl ?_
    refine A_callSN (host := "QuotedBooks") hM rfl rfl (mem_NW 1291 (by decide +kernel) rfl) mi_X11_at ms_X11_at (As := [aR 70, aI v3]) (rest := []) (ct_X11_at 70 10 v3 h rfl rfl (OK_bind hh)) (by decide) ⟨Nat.zero_le _, Nat.zero_le _⟩ rfl rfl (Nat.le_of_ble_eq_true rfl) (fun r F' h' hq1 => ?_)
    obtain ⟨rfl, r1, rfl, e9, hh⟩ := hq1
    subst h'
    refine A_blk hM.1 4 (lv1 := [some (aR 66), some (aI v1), some (aI v2), some (aI v3), none]) (s1 := [aI (and32 r1 (xor32 v1 (-1)))]) (h1 := h) rfl ?_
    refine A_ifc hM.1 rfl rfl (fun hc => ?_) (fun hc => ?_)
    · replace hh := OK_t hh hc
      refine A_blk hM.1 11 (lv1 := [some (aR 66), some (aI v1), some (aI v2), some (aI v3), none]) (s1 := [aI (((or32 v1 (shl32 1 v3)) * 10) + v3), aR 72]) (h1 := h) rfl ?_
      refine A_callSN (host := "QuotedBooks") hM rfl rfl (mem_NW 1291 (by decide +kernel) rfl) mi_X11_at ms_X11_at (As := [aR 72, aI (((or32 v1 (shl32 1 v3)) * 10) + v3)]) (rest := []) (ct_X11_at 72 10240 (((or32 v1 (shl32 1 v3)) * 10) + v3) h rfl rfl (OK_bind hh)) (by decide) ⟨Nat.zero_le _, Nat.zero_le _⟩ rfl rfl (Nat.le_of_ble_eq_true rfl) (fun r F' h' hq1 => ?_)
      obtain ⟨rfl, r2, rfl, e9, hh⟩ := hq1
      subst h'
      refine A_blk hM.1 3 (lv1 := [some (aR 66), some (aI v1), some (aI v2), some (aI v3), some (aI r2)]) (s1 := [aI (-1000000), aI r2]) (h1 := h) rfl ?_
      refine A_icmp hM.1 rfl rfl (fun hc => ?_) (fun hc => ?_)
      · replace hh := OK_t hh hc
        refine A_blk hM.1 1 (lv1 := [some (aR 66), some (aI v1), some (aI v2), some (aI v3), some (aI r2)]) (s1 := [aI v2]) (h1 := h) rfl ?_
        refine A_ifc hM.1 rfl rfl (fun hc => ?_) (fun hc => ?_)
        · replace hh := OK_t hh hc
          refine A_blk hM.1 8 (lv1 := [some (aR 66), some (aI v1), some (aI v2), some (aI v3), some (aI r2)]) (s1 := [aI ((v2 * 10) + v3), aR 71, aI r2]) (h1 := h) rfl ?_
          refine A_callSN (host := "QuotedBooks") hM rfl rfl (mem_NW 1291 (by decide +kernel) rfl) mi_X11_at ms_X11_at (As := [aR 71, aI ((v2 * 10) + v3)]) (rest := [aI r2]) (ct_X11_at 71 100 ((v2 * 10) + v3) h rfl rfl (OK_bind hh)) (by decide) ⟨Nat.zero_le _, Nat.zero_le _⟩ rfl rfl (Nat.le_of_ble_eq_true rfl) (fun r F' h' hq1 => ?_)
          obtain ⟨rfl, r3, rfl, e9, hh⟩ := hq1
          subst h'
          refine A_blk hM.1 1 (lv1 := [some (aR 66), some (aI v1), some (aI v2), some (aI v3), some (aI r2)]) (s1 := [aI (r2 + r3)]) (h1 := h) rfl ?_
          exact A_reti hM.1 rfl rfl rfl (hq (r2 + r3) hh)
        · replace hh := OK_f hh hc
          refine A_blk hM.1 1 (lv1 := [some (aR 66), some (aI v1), some (aI v2), some (aI v3), some (aI r2)]) (s1 := [aI r2]) (h1 := h) rfl ?_
          refine A_go hM.1 rfl rfl ?_
          exact A_reti hM.1 rfl rfl rfl (hq r2 hh)
      · replace hh := OK_f hh hc
        refine A_blk hM.1 1 (lv1 := [some (aR 66), some (aI v1), some (aI v2), some (aI v3), some (aI r2)]) (s1 := [aI (-1000000)]) (h1 := h) rfl ?_
        exact A_reti hM.1 rfl rfl rfl (hq (-1000000) hh)
    · replace hh := OK_f hh hc
      refine A_mask [false, false, false, false, true] (lv1 := [none, none, none, none, none]) rfl ?_
      exact c_X5_behind_j16 hM h hq hh

set_option maxRecDepth 20000 in
set_option maxHeartbeats 4000000 in
theorem ct_X5_behind {G : Gx} (v1 : Int) (v2 : Int) (v3 : Int) (h : Hp)   {P : Int → Prop} (hh : OK (X5_behind v1 v2 v3 h) P) : CT G yX5_behind M_X5_behind 2 0 0 FN h [aR 66, aI v1, aI v2, aI v3] (fun r F' h' => F' = FN ∧ ∃ z, r = some (aI z) ∧ h' = h ∧ P z) :=
  CT.of (by decide +kernel) rfl (Nat.le_of_ble_eq_true rfl) k_X5_behind fun k0 _ _ hM => c_X5_behind hM v1 v2 v3 h (fun z hz => ⟨rfl, z, rfl, rfl, hz⟩) hh

theorem mi_X5_complete : MIv yX5_complete M_X5_complete 2 := ⟨⟨(mem_GW 1331 (by decide +kernel) rfl), (mem_GW 132 (by decide +kernel) rfl), by decide +kernel, by decide +kernel, by decide +kernel, by decide⟩, (mem_GW 1330 (by decide +kernel) rfl), (mem_GW 41 (by decide +kernel) rfl)⟩
set_option maxRecDepth 20000 in
set_option maxHeartbeats 4000000 in
theorem c_X5_complete_j68 {k0 : K0} {G : Gx} {Qp : Option AV → Fx → Hp → Prop} (hM : MB (KM k0 0 0 Qp) G M_X5_complete 3) (v1 : Int) (v2 : Int) (v4 : Int) (v5 : Int) (v6 : Int) (h : Hp)   {P : ((Int × Int × Int × Hp) ⊕ (Int × Int × Hp)) → Prop} (hin : ∀ y : Int × Int × Int × Hp, P (.inl y) → ATk (KM k0 0 0 Qp) FN 0 0 M_X5_complete 26 [some (aR 66), some (aI v1), some (aI v2), none, some (aI y.1), some (aI y.2.1), some (aI y.2.2.1), none, none] [] y.2.2.2) (hout0 : ∀ y : Int × Int × Hp, P (.inr y) → ATk (KM k0 0 0 Qp) FN 0 0 M_X5_complete 70 [some (aR 66), some (aI v1), some (aI v2), none, some (aI y.1), some (aI y.2.1), none, none, none] [] y.2.2) (hh : OK (X5_complete_j68 v1 v2 v4 v5 v6 h) P) : ATk (KM k0 0 0 Qp) FN 0 0 M_X5_complete 68 [some (aR 66), some (aI v1), some (aI v2), none, some (aI v4), some (aI v5), some (aI v6), none, none] [] h := by
  unfold X5_complete_j68 at hh
  refine A_blk hM.1 1 (lv1 := [some (aR 66), some (aI v1), some (aI v2), none, some (aI v4), some (aI v5), some (aI (v6 + 1)), none, none]) (s1 := []) (h1 := h) rfl ?_
  refine A_go hM.1 rfl rfl ?_
  exact hin (v4, v5, v6 + 1, h) hh

set_option maxRecDepth 20000 in
set_option maxHeartbeats 4000000 in
theorem c_X5_complete_l26 {k0 : K0} {G : Gx} {Qp : Option AV → Fx → Hp → Prop} (hM : MB (KM k0 0 0 Qp) G M_X5_complete 3) (v1 : Int) (v2 : Int) (x : Int × Int × Int × Hp)   {P : ((Int × Int × Int × Hp) ⊕ (Int × Int × Hp)) → Prop} (hin : ∀ y : Int × Int × Int × Hp, P (.inl y) → ATk (KM k0 0 0 Qp) FN 0 0 M_X5_complete 26 [some (aR 66), some (aI v1), some (aI v2), none, some (aI y.1), some (aI y.2.1), some (aI y.2.2.1), none, none] [] y.2.2.2) (hout0 : ∀ y : Int × Int × Hp, P (.inr y) → ATk (KM k0 0 0 Qp) FN 0 0 M_X5_complete 70 [some (aR 66), some (aI v1), some (aI v2), none, some (aI y.1), some (aI y.2.1), none, none, none] [] y.2.2) (hh : OK (X5_complete_l26 v1 v2 x) P) : ATk (KM k0 0 0 Qp) FN 0 0 M_X5_complete 26 [some (aR 66), some (aI v1), some (aI v2), none, some (aI x.1), some (aI x.2.1), some (aI x.2.2.1), none, none] [] x.2.2.2 := by
  unfold X5_complete_l26 at hh
  refine A_blk hM.1 3 (lv1 := [some (aR 66), some (aI v1), some (aI v2), none, some (aI x.1), some (aI x.2.1), some (aI x.2.2.1), none, none]) (s1 := [aI (x.2.2.2 66 5), aI x.2.2.1]) (h1 := x.2.2.2) rfl ?_
  refine A_icmp hM.1 rfl rfl (fun hc => ?_) (fun hc => ?_)
  · replace hh := OK_t hh hc
    refine A_mask [true, true, true, true, true, true, false, true, true] (lv1 := [some (aR 66), some (aI v1), some (aI v2), none, some (aI x.1), some (aI x.2.1), none, none, none]) rfl ?_
    exact hout0 (x.1, x.2.1, x.2.2.2) hh
  · replace hh := OK_f hh hc
    refine A_blk hM.1 4 (lv1 := [some (aR 66), some (aI v1), some (aI v2), none, some (aI x.1), some (aI x.2.1), some (aI x.2.2.1), none, none]) (s1 := [aI x.2.2.1, aI v2, aI v1, aR 66]) (h1 := x.2.2.2) rfl ?_
    refine A_callV hM rfl rfl (mem_GW 1332 (by decide +kernel) rfl) mi_X5_behind (As := [aI v1, aI v2, aI x.2.2.1]) (rest := []) (ct_X5_behind v1 v2 x.2.2.1 x.2.2.2 (OK_bind hh)) (by decide) ⟨Nat.zero_le _, Nat.zero_le _⟩ rfl rfl (Nat.le_of_ble_eq_true rfl) (by decide) rfl (by decide) rfl (fun r F' h' hq1 => ?_)
    obtain ⟨rfl, r1, rfl, e9, hh⟩ := hq1
    subst h'
    refine A_blk hM.1 3 (lv1 := [some (aR 66), some (aI v1), some (aI v2), none, some (aI x.1), some (aI x.2.1), some (aI x.2.2.1), some (aI r1), none]) (s1 := [aI (-1000000), aI r1]) (h1 := x.2.2.2) rfl ?_
    refine A_icmp hM.1 rfl rfl (fun hc => ?_) (fun hc => ?_)
    · replace hh := OK_t hh hc
      refine A_blk hM.1 11 (lv1 := [some (aR 66), some (aI v1), some (aI v2), none, some (aI x.1), some (aI x.2.1), some (aI x.2.2.1), some (aI r1), none]) (s1 := [aI (((or32 v1 (shl32 1 x.2.2.1)) * 10) + x.2.2.1), aR 73]) (h1 := x.2.2.2) rfl ?_
      refine A_callSN (host := "QuotedBooks") hM rfl rfl (mem_NW 1291 (by decide +kernel) rfl) mi_X11_at ms_X11_at (As := [aR 73, aI (((or32 v1 (shl32 1 x.2.2.1)) * 10) + x.2.2.1)]) (rest := []) (ct_X11_at 73 10240 (((or32 v1 (shl32 1 x.2.2.1)) * 10) + x.2.2.1) x.2.2.2 rfl rfl (OK_bind hh)) (by decide) ⟨Nat.zero_le _, Nat.zero_le _⟩ rfl rfl (Nat.le_of_ble_eq_true rfl) (fun r F' h' hq1 => ?_)
      obtain ⟨rfl, r2, rfl, e9, hh⟩ := hq1
      subst h'
      refine A_blk hM.1 3 (lv1 := [some (aR 66), some (aI v1), some (aI v2), none, some (aI x.1), some (aI x.2.1), some (aI x.2.2.1), some (aI r1), some (aI r2)]) (s1 := [aI x.1, aI r1]) (h1 := x.2.2.2) rfl ?_
      refine A_icmp hM.1 rfl rfl (fun hc => ?_) (fun hc => ?_)
      · replace hh := OK_t hh hc
        refine A_blk hM.1 2 (lv1 := [some (aR 66), some (aI v1), some (aI v2), none, some (aI x.1), some (aI x.2.1), some (aI x.2.2.1), some (aI r1), some (aI r2)]) (s1 := [aI x.1, aI r1]) (h1 := x.2.2.2) rfl ?_
        refine A_icmp hM.1 rfl rfl (fun hc => ?_) (fun hc => ?_)
        · replace hh := OK_t hh hc
          refine A_mask [true, true, true, true, true, true, true, false, false] (lv1 := [some (aR 66), some (aI v1), some (aI v2), none, some (aI x.1), some (aI x.2.1), some (aI x.2.2.1), none, none]) rfl ?_
          exact c_X5_complete_j68 hM v1 v2 x.1 x.2.1 x.2.2.1 x.2.2.2 hin hout0 hh
        · replace hh := OK_f hh hc
          refine A_blk hM.1 4 (lv1 := [some (aR 66), some (aI v1), some (aI v2), none, some (aI x.1), some (aI (x.2.1 + r2)), some (aI x.2.2.1), some (aI r1), some (aI r2)]) (s1 := []) (h1 := x.2.2.2) rfl ?_
          refine A_mask [true, true, true, true, true, true, true, false, false] (lv1 := [some (aR 66), some (aI v1), some (aI v2), none, some (aI x.1), some (aI (x.2.1 + r2)), some (aI x.2.2.1), none, none]) rfl ?_
          exact c_X5_complete_j68 hM v1 v2 x.1 (x.2.1 + r2) x.2.2.1 x.2.2.2 hin hout0 hh
      · replace hh := OK_f hh hc
        refine A_blk hM.1 4 (lv1 := [some (aR 66), some (aI v1), some (aI v2), none, some (aI r1), some (aI r2), some (aI x.2.2.1), some (aI r1), some (aI r2)]) (s1 := []) (h1 := x.2.2.2) rfl ?_
        refine A_go hM.1 rfl rfl ?_
        refine A_mask [true, true, true, true, true, true, true, false, false] (lv1 := [some (aR 66), some (aI v1), some (aI v2), none, some (aI r1), some (aI r2), some (aI x.2.2.1), none, none]) rfl ?_
        exact c_X5_complete_j68 hM v1 v2 r1 r2 x.2.2.1 x.2.2.2 hin hout0 hh
    · replace hh := OK_f hh hc
      refine A_go hM.1 rfl rfl ?_
      refine A_mask [true, true, true, true, true, true, true, false, true] (lv1 := [some (aR 66), some (aI v1), some (aI v2), none, some (aI x.1), some (aI x.2.1), some (aI x.2.2.1), none, none]) rfl ?_
      exact c_X5_complete_j68 hM v1 v2 x.1 x.2.1 x.2.2.1 x.2.2.2 hin hout0 hh

set_option maxRecDepth 20000 in
set_option maxHeartbeats 4000000 in
theorem c_X5_complete_j23 {k0 : K0} {G : Gx} {Qp : Option AV → Fx → Hp → Prop} (hM : MB (KM k0 0 0 Qp) G M_X5_complete 3) (v1 : Int) (v2 : Int) (v4 : Int) (s0 : Int) (h : Hp)   {P : Hp → Prop} (hq : ∀ z : Hp, P z → Qp none FN z) (hh : OK (X5_complete_j23 v1 v2 v4 s0 h) P) : ATk (KM k0 0 0 Qp) FN 0 0 M_X5_complete 23 [some (aR 66), some (aI v1), some (aI v2), none, some (aI v4), none, none, none, none] [aI s0] h := by
  unfold X5_complete_j23 at hh
  refine A_blk hM.1 3 (lv1 := [some (aR 66), some (aI v1), some (aI v2), none, some (aI v4), some (aI s0), some (aI 0), none, none]) (s1 := []) (h1 := h) rfl ?_
  refine iter_ok (s := (v4, s0, 0, h)) (Gp := fun z => ATk (KM k0 0 0 Qp) FN 0 0 M_X5_complete 26 [some (aR 66), some (aI v1), some (aI v2), none, some (aI z.1), some (aI z.2.1), some (aI z.2.2.1), none, none] [] z.2.2.2) (E := fun z => ATk (KM k0 0 0 Qp) FN 0 0 M_X5_complete 70 [some (aR 66), some (aI v1), some (aI v2), none, some (aI z.1), some (aI z.2.1), none, none, none] [] z.2.2) (fun z P1 g1 g2 g3 => c_X5_complete_l26 hM v1 v2 z g2 g3 g1) (OK_bind hh) (fun x3 hh => ?_)
  refine A_blk hM.1 1 (lv1 := [some (aR 66), some (aI v1), some (aI v2), none, some (aI x3.1), some (aI x3.2.1), none, none, none]) (s1 := [aI v1]) (h1 := x3.2.2) rfl ?_
  refine A_ifc hM.1 rfl rfl (fun hc => ?_) (fun hc => ?_)
  · replace hh := OK_t hh hc
    refine A_blk hM.1 8 (lv1 := [some (aR 66), some (aI v1), some (aI v2), none, some (aI x3.1), some (aI x3.2.1), none, none, none]) (s1 := [aI x3.1, aI ((v1 * 10) + v2), aR 72]) (h1 := x3.2.2) rfl ?_
    refine A_callSN (host := "QuotedBooks") hM rfl rfl (mem_NW 1292 (by decide +kernel) rfl) mi_X11_put ms_X11_put (As := [aR 72, aI ((v1 * 10) + v2), aI x3.1]) (rest := []) (ct_X11_put 72 10240 ((v1 * 10) + v2) x3.1 x3.2.2 rfl rfl (OK_bind hh)) (by decide) ⟨Nat.zero_le _, Nat.zero_le _⟩ rfl rfl (Nat.le_of_ble_eq_true rfl) (fun r F' h' hq1 => ?_)
    obtain ⟨rfl, rfl, hh⟩ := hq1
    obtain ⟨r4, rfl⟩ : ∃ z, z = h' := ⟨_, rfl⟩
    refine A_blk hM.1 8 (lv1 := [some (aR 66), some (aI v1), some (aI v2), none, some (aI x3.1), some (aI x3.2.1), none, none, none]) (s1 := [aI x3.2.1, aI ((v1 * 10) + v2), aR 73]) (h1 := r4) rfl ?_
    refine A_callSN (host := "QuotedBooks") hM rfl rfl (mem_NW 1292 (by decide +kernel) rfl) mi_X11_put ms_X11_put (As := [aR 73, aI ((v1 * 10) + v2), aI x3.2.1]) (rest := []) (ct_X11_put 73 10240 ((v1 * 10) + v2) x3.2.1 r4 rfl rfl (OK_bind hh)) (by decide) ⟨Nat.zero_le _, Nat.zero_le _⟩ rfl rfl (Nat.le_of_ble_eq_true rfl) (fun r F' h' hq1 => ?_)
    obtain ⟨rfl, rfl, hh⟩ := hq1
    obtain ⟨r5, rfl⟩ : ∃ z, z = h' := ⟨_, rfl⟩
    exact A_retv hM.1 rfl rfl rfl (hq r5 hh)
  · replace hh := OK_f hh hc
    refine A_blk hM.1 6 (lv1 := [some (aR 66), some (aI v1), some (aI v2), none, some (aI x3.1), some (aI x3.2.1), none, none, none]) (s1 := []) (h1 := setH (setH x3.2.2 66 14 x3.1) 66 15 x3.2.1) rfl ?_
    refine A_go hM.1 rfl rfl ?_
    exact A_retv hM.1 rfl rfl rfl (hq (setH (setH x3.2.2 66 14 x3.1) 66 15 x3.2.1) hh)

set_option maxRecDepth 20000 in
set_option maxHeartbeats 4000000 in
theorem c_X5_complete_j17 {k0 : K0} {G : Gx} {Qp : Option AV → Fx → Hp → Prop} (hM : MB (KM k0 0 0 Qp) G M_X5_complete 3) (v1 : Int) (v2 : Int) (v3 : Int) (s0 : Int) (h : Hp)   {P : Hp → Prop} (hq : ∀ z : Hp, P z → Qp none FN z) (hh : OK (X5_complete_j17 v1 v2 v3 s0 h) P) : ATk (KM k0 0 0 Qp) FN 0 0 M_X5_complete 17 [some (aR 66), some (aI v1), some (aI v2), some (aI v3), none, none, none, none, none] [aI s0] h := by
  unfold X5_complete_j17 at hh
  refine A_blk hM.1 2 (lv1 := [some (aR 66), some (aI v1), some (aI v2), some (aI v3), some (aI s0), none, none, none, none]) (s1 := [aI v3]) (h1 := h) rfl ?_
  refine A_ifc hM.1 rfl rfl (fun hc => ?_) (fun hc => ?_)
  · replace hh := OK_t hh hc
    refine A_blk hM.1 1 (lv1 := [some (aR 66), some (aI v1), some (aI v2), some (aI v3), some (aI s0), none, none, none, none]) (s1 := [aI 0]) (h1 := h) rfl ?_
    refine A_mask [true, true, true, false, true, true, true, true, true] (lv1 := [some (aR 66), some (aI v1), some (aI v2), none, some (aI s0), none, none, none, none]) rfl ?_
    exact c_X5_complete_j23 hM v1 v2 s0 0 h hq hh
  · replace hh := OK_f hh hc
    refine A_blk hM.1 1 (lv1 := [some (aR 66), some (aI v1), some (aI v2), some (aI v3), some (aI s0), none, none, none, none]) (s1 := [aI 1]) (h1 := h) rfl ?_
    refine A_go hM.1 rfl rfl ?_
    refine A_mask [true, true, true, false, true, true, true, true, true] (lv1 := [some (aR 66), some (aI v1), some (aI v2), none, some (aI s0), none, none, none, none]) rfl ?_
    exact c_X5_complete_j23 hM v1 v2 s0 1 h hq hh

set_option maxRecDepth 20000 in
set_option maxHeartbeats 4000000 in
theorem c_X5_complete_j11 {k0 : K0} {G : Gx} {Qp : Option AV → Fx → Hp → Prop} (hM : MB (KM k0 0 0 Qp) G M_X5_complete 3) (v1 : Int) (v2 : Int) (s0 : Int) (h : Hp)   {P : Hp → Prop} (hq : ∀ z : Hp, P z → Qp none FN z) (hh : OK (X5_complete_j11 v1 v2 s0 h) P) : ATk (KM k0 0 0 Qp) FN 0 0 M_X5_complete 11 [some (aR 66), some (aI v1), some (aI v2), none, none, none, none, none, none] [aI s0] h := by
  unfold X5_complete_j11 at hh
  refine A_blk hM.1 2 (lv1 := [some (aR 66), some (aI v1), some (aI v2), some (aI s0), none, none, none, none, none]) (s1 := [aI s0]) (h1 := h) rfl ?_
  refine A_ifc hM.1 rfl rfl (fun hc => ?_) (fun hc => ?_)
  · replace hh := OK_t hh hc
    refine A_blk hM.1 1 (lv1 := [some (aR 66), some (aI v1), some (aI v2), some (aI s0), none, none, none, none, none]) (s1 := [aI (-1000000)]) (h1 := h) rfl ?_
    exact c_X5_complete_j17 hM v1 v2 s0 (-1000000) h hq hh
  · replace hh := OK_f hh hc
    refine A_blk hM.1 1 (lv1 := [some (aR 66), some (aI v1), some (aI v2), some (aI s0), none, none, none, none, none]) (s1 := [aI 0]) (h1 := h) rfl ?_
    refine A_go hM.1 rfl rfl ?_
    exact c_X5_complete_j17 hM v1 v2 s0 0 h hq hh

set_option maxRecDepth 20000 in
set_option maxHeartbeats 4000000 in
theorem c_X5_complete {k0 : K0} {G : Gx} {Qp : Option AV → Fx → Hp → Prop} (hM : MB (KM k0 0 0 Qp) G M_X5_complete 3) (v1 : Int) (v2 : Int) (h : Hp)   {P : Hp → Prop} (hq : ∀ z : Hp, P z → Qp none FN z) (hh : OK (X5_complete v1 v2 h) P) : ATk (KM k0 0 0 Qp) FN 0 0 M_X5_complete 0 [some (aR 66), some (aI v1), some (aI v2), none, none, none, none, none, none] [] h := by
  unfold X5_complete at hh
  refine A_blk hM.1 7 (lv1 := [some (aR 66), some (aI v1), some (aI v2), none, none, none, none, none, none]) (s1 := [aI ((shl32 1 (h 66 5)) - 1), aI v1]) (h1 := h) rfl ?_
  refine A_icmp hM.1 rfl rfl (fun hc => ?_) (fun hc => ?_)
  · replace hh := OK_t hh hc
    refine A_blk hM.1 1 (lv1 := [some (aR 66), some (aI v1), some (aI v2), none, none, none, none, none, none]) (s1 := [aI 0]) (h1 := h) rfl ?_
    exact c_X5_complete_j11 hM v1 v2 0 h hq hh
  · replace hh := OK_f hh hc
    refine A_blk hM.1 1 (lv1 := [some (aR 66), some (aI v1), some (aI v2), none, none, none, none, none, none]) (s1 := [aI 1]) (h1 := h) rfl ?_
    refine A_go hM.1 rfl rfl ?_
    exact c_X5_complete_j11 hM v1 v2 1 h hq hh

set_option maxRecDepth 20000 in
set_option maxHeartbeats 4000000 in
theorem ct_X5_complete {G : Gx} (v1 : Int) (v2 : Int) (h : Hp)   {P : Hp → Prop} (hh : OK (X5_complete v1 v2 h) P) : CT G yX5_complete M_X5_complete 3 0 0 FN h [aR 66, aI v1, aI v2] (fun r F' h' => F' = FN ∧ r = none ∧ P h') :=
  CT.of (by decide +kernel) rfl (Nat.le_of_ble_eq_true rfl) k_X5_complete fun k0 _ _ hM => c_X5_complete hM v1 v2 h (fun z hz => ⟨rfl, rfl, hz⟩) hh

theorem mi_X5_layLeast : MIv yX5_layLeast M_X5_layLeast 0 := ⟨⟨(mem_GW 1339 (by decide +kernel) rfl), (mem_GW 132 (by decide +kernel) rfl), by decide +kernel, by decide +kernel, by decide +kernel, by decide⟩, (mem_GW 1338 (by decide +kernel) rfl), (mem_GW 43 (by decide +kernel) rfl)⟩
set_option maxRecDepth 20000 in
set_option maxHeartbeats 4000000 in
theorem c_X5_layLeast_l15 {k0 : K0} {G : Gx} {Qp : Option AV → Fx → Hp → Prop} (hM : MB (KM k0 0 0 Qp) G M_X5_layLeast 3) (v1 : Int) (v2 : Int) (v3 : Int) (v4 : Int) (x : Int × Hp)   {P : ((Int × Hp) ⊕ (Int × Hp)) → Prop} (hin : ∀ y : Int × Hp, P (.inl y) → ATk (KM k0 0 0 Qp) FN 0 0 M_X5_layLeast 15 [some (aR 66), some (aI v1), some (aI v2), some (aI v3), some (aI v4), some (aI y.1)] [] y.2) (hout0 : ∀ y : Int × Hp, P (.inr y) → ATk (KM k0 0 0 Qp) FN 0 0 M_X5_layLeast 28 [some (aR 66), some (aI v1), none, none, some (aI v4), some (aI y.1)] [] y.2) (hh : OK (X5_layLeast_l15 v1 v2 v3 v4 x) P) : ATk (KM k0 0 0 Qp) FN 0 0 M_X5_layLeast 15 [some (aR 66), some (aI v1), some (aI v2), some (aI v3), some (aI v4), some (aI x.1)] [] x.2 := by
  unfold X5_layLeast_l15 at hh
  refine A_blk hM.1 3 (lv1 := [some (aR 66), some (aI v1), some (aI v2), some (aI v3), some (aI v4), some (aI x.1)]) (s1 := [aI (x.2 66 5), aI x.1]) (h1 := x.2) rfl ?_
  refine A_icmp hM.1 rfl rfl (fun hc => ?_) (fun hc => ?_)
  · replace hh := OK_t hh hc
    refine A_mask [true, true, false, false, true, true] (lv1 := [some (aR 66), some (aI v1), none, none, some (aI v4), some (aI x.1)]) rfl ?_
    exact hout0 (x.1, x.2) hh
  · replace hh := OK_f hh hc
    refine A_blk hM.1 4 (lv1 := [some (aR 66), some (aI v1), some (aI v2), some (aI v3), some (aI v4), some (aI x.1)]) (s1 := [aI x.1, aI v2, aI v1, aR 66]) (h1 := x.2) rfl ?_
    refine A_callV hM rfl rfl (mem_GW 1332 (by decide +kernel) rfl) mi_X5_behind (As := [aI v1, aI v2, aI x.1]) (rest := []) (ct_X5_behind v1 v2 x.1 x.2 (OK_bind hh)) (by decide) ⟨Nat.zero_le _, Nat.zero_le _⟩ rfl rfl (Nat.le_of_ble_eq_true rfl) (by decide) rfl (by decide) rfl (fun r F' h' hq1 => ?_)
    obtain ⟨rfl, r1, rfl, e9, hh⟩ := hq1
    subst h'
    refine A_blk hM.1 1 (lv1 := [some (aR 66), some (aI v1), some (aI v2), some (aI v3), some (aI v4), some (aI x.1)]) (s1 := [aI v3, aI r1]) (h1 := x.2) rfl ?_
    refine A_icmp hM.1 rfl rfl (fun hc => ?_) (fun hc => ?_)
    · replace hh := OK_t hh hc
      refine A_mask [true, true, false, false, true, true] (lv1 := [some (aR 66), some (aI v1), none, none, some (aI v4), some (aI x.1)]) rfl ?_
      exact hout0 (x.1, x.2) hh
    · replace hh := OK_f hh hc
      refine A_blk hM.1 1 (lv1 := [some (aR 66), some (aI v1), some (aI v2), some (aI v3), some (aI v4), some (aI (x.1 + 1))]) (s1 := []) (h1 := x.2) rfl ?_
      refine A_go hM.1 rfl rfl ?_
      exact hin (x.1 + 1, x.2) hh

set_option maxRecDepth 20000 in
set_option maxHeartbeats 4000000 in
theorem c_X5_layLeast_l9 {k0 : K0} {G : Gx} {Qp : Option AV → Fx → Hp → Prop} (hM : MB (KM k0 0 0 Qp) G M_X5_layLeast 3) (x : Int × Int × Int × Int × Hp)   {P : ((Int × Int × Int × Int × Hp) ⊕ (Hp)) → Prop} (hin : ∀ y : Int × Int × Int × Int × Hp, P (.inl y) → ATk (KM k0 0 0 Qp) FN 0 0 M_X5_layLeast 9 [some (aR 66), some (aI y.1), some (aI y.2.1), some (aI y.2.2.1), some (aI y.2.2.2.1), none] [] y.2.2.2.2) (hout0 : ∀ y : Hp, P (.inr y) → ATk (KM k0 0 0 Qp) FN 0 0 M_X5_layLeast 52 [none, none, none, none, none, none] [] y) (hh : OK (X5_layLeast_l9 x) P) : ATk (KM k0 0 0 Qp) FN 0 0 M_X5_layLeast 9 [some (aR 66), some (aI x.1), some (aI x.2.1), some (aI x.2.2.1), some (aI x.2.2.2.1), none] [] x.2.2.2.2 := by
  unfold X5_layLeast_l9 at hh
  refine A_blk hM.1 3 (lv1 := [some (aR 66), some (aI x.1), some (aI x.2.1), some (aI x.2.2.1), some (aI x.2.2.2.1), none]) (s1 := [aI (x.2.2.2.2 66 5), aI x.2.2.2.1]) (h1 := x.2.2.2.2) rfl ?_
  refine A_icmp hM.1 rfl rfl (fun hc => ?_) (fun hc => ?_)
  · replace hh := OK_t hh hc
    refine A_mask [false, false, false, false, false, true] (lv1 := [none, none, none, none, none, none]) rfl ?_
    exact hout0 x.2.2.2.2 hh
  · replace hh := OK_f hh hc
    refine A_blk hM.1 2 (lv1 := [some (aR 66), some (aI x.1), some (aI x.2.1), some (aI x.2.2.1), some (aI x.2.2.2.1), some (aI 0)]) (s1 := []) (h1 := x.2.2.2.2) rfl ?_
    refine iter_ok (s := (0, x.2.2.2.2)) (Gp := fun z => ATk (KM k0 0 0 Qp) FN 0 0 M_X5_layLeast 15 [some (aR 66), some (aI x.1), some (aI x.2.1), some (aI x.2.2.1), some (aI x.2.2.2.1), some (aI z.1)] [] z.2) (E := fun z => ATk (KM k0 0 0 Qp) FN 0 0 M_X5_layLeast 28 [some (aR 66), some (aI x.1), none, none, some (aI x.2.2.2.1), some (aI z.1)] [] z.2) (fun z P1 g1 g2 g3 => c_X5_layLeast_l15 hM x.1 x.2.1 x.2.2.1 x.2.2.2.1 z g2 g3 g1) (OK_bind hh) (fun x2 hh => ?_)
    refine A_blk hM.1 4 (lv1 := [some (aR 66), some (aI x.1), none, none, some (aI x.2.2.2.1), some (aI x2.1)]) (s1 := [aI x2.1, aI x.2.2.2.1, aR 74]) (h1 := x2.2) rfl ?_
    refine A_callSN (host := "QuotedBooks") hM rfl rfl (mem_NW 1292 (by decide +kernel) rfl) mi_X11_put ms_X11_put (As := [aR 74, aI x.2.2.2.1, aI x2.1]) (rest := []) (ct_X11_put 74 10 x.2.2.2.1 x2.1 x2.2 rfl rfl (OK_bind hh)) (by decide) ⟨Nat.zero_le _, Nat.zero_le _⟩ rfl rfl (Nat.le_of_ble_eq_true rfl) (fun r F' h' hq1 => ?_)
    obtain ⟨rfl, rfl, hh⟩ := hq1
    obtain ⟨r3, rfl⟩ : ∃ z, z = h' := ⟨_, rfl⟩
    refine A_blk hM.1 15 (lv1 := [some (aR 66), some (aI (or32 x.1 (shl32 1 x2.1))), some (aI x2.1), none, some (aI x.2.2.2.1), some (aI x2.1)]) (s1 := [aI (((or32 x.1 (shl32 1 x2.1)) * 10) + x2.1), aR 72]) (h1 := r3) rfl ?_
    refine A_callSN (host := "QuotedBooks") hM rfl rfl (mem_NW 1291 (by decide +kernel) rfl) mi_X11_at ms_X11_at (As := [aR 72, aI (((or32 x.1 (shl32 1 x2.1)) * 10) + x2.1)]) (rest := []) (ct_X11_at 72 10240 (((or32 x.1 (shl32 1 x2.1)) * 10) + x2.1) r3 rfl rfl (OK_bind hh)) (by decide) ⟨Nat.zero_le _, Nat.zero_le _⟩ rfl rfl (Nat.le_of_ble_eq_true rfl) (fun r F' h' hq1 => ?_)
    obtain ⟨rfl, r4, rfl, e9, hh⟩ := hq1
    subst h'
    refine A_blk hM.1 2 (lv1 := [some (aR 66), some (aI (or32 x.1 (shl32 1 x2.1))), some (aI x2.1), some (aI r4), some (aI (x.2.2.2.1 + 1)), some (aI x2.1)]) (s1 := []) (h1 := r3) rfl ?_
    refine A_go hM.1 rfl rfl ?_
    refine A_mask [true, true, true, true, true, false] (lv1 := [some (aR 66), some (aI (or32 x.1 (shl32 1 x2.1))), some (aI x2.1), some (aI r4), some (aI (x.2.2.2.1 + 1)), none]) rfl ?_
    exact hin (or32 x.1 (shl32 1 x2.1), x2.1, r4, x.2.2.2.1 + 1, r3) hh

set_option maxRecDepth 20000 in
set_option maxHeartbeats 4000000 in
theorem c_X5_layLeast {k0 : K0} {G : Gx} {Qp : Option AV → Fx → Hp → Prop} (hM : MB (KM k0 0 0 Qp) G M_X5_layLeast 3) (h : Hp)   {P : Hp → Prop} (hq : ∀ z : Hp, P z → Qp none FN z) (hh : OK (X5_layLeast h) P) : ATk (KM k0 0 0 Qp) FN 0 0 M_X5_layLeast 0 [some (aR 66), none, none, none, none, none] [] h := by
  unfold X5_layLeast at hh
  refine A_blk hM.1 9 (lv1 := [some (aR 66), some (aI 0), some (aI (-1)), some (aI (h 66 14)), some (aI 0), none]) (s1 := []) (h1 := h) rfl ?_
  refine iter_ok (s := (0, (-1), h 66 14, 0, h)) (Gp := fun z => ATk (KM k0 0 0 Qp) FN 0 0 M_X5_layLeast 9 [some (aR 66), some (aI z.1), some (aI z.2.1), some (aI z.2.2.1), some (aI z.2.2.2.1), none] [] z.2.2.2.2) (E := fun z => ATk (KM k0 0 0 Qp) FN 0 0 M_X5_layLeast 52 [none, none, none, none, none, none] [] z) (fun z P1 g1 g2 g3 => c_X5_layLeast_l9 hM  z g2 g3 g1) (OK_bind hh) (fun x5 hh => ?_)
  exact A_retv hM.1 rfl rfl rfl (hq x5 hh)

set_option maxRecDepth 20000 in
set_option maxHeartbeats 4000000 in
theorem ct_X5_layLeast {G : Gx} (h : Hp)   {P : Hp → Prop} (hh : OK (X5_layLeast h) P) : CT G yX5_layLeast M_X5_layLeast 3 0 0 FN h [aR 66] (fun r F' h' => F' = FN ∧ r = none ∧ P h') :=
  CT.of (by decide +kernel) rfl (Nat.le_of_ble_eq_true rfl) k_X5_layLeast fun k0 _ _ hM => c_X5_layLeast hM h (fun z hz => ⟨rfl, rfl, hz⟩) hh

