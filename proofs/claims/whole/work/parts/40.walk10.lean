set_option linter.all false
theorem mi_X0_fillBonds : MIv yX0_fillBonds M_X0_fillBonds 0 := ⟨⟨(mem_GW 1489 (by decide +kernel) rfl), (mem_GW 133 (by decide +kernel) rfl), by decide +kernel, by decide +kernel, by decide +kernel, by decide⟩, (mem_GW 1488 (by decide +kernel) rfl), (mem_GW 50 (by decide +kernel) rfl)⟩
set_option maxRecDepth 20000 in
set_option maxHeartbeats 4000000 in
theorem c_X0_fillBonds_l13 {k0 : K0} {G : Gx} {Qp : Option AV → Fx → Hp → Prop} (hM : MB (KM k0 0 0 Qp) G M_X0_fillBonds 4) (v1 : Int) (v2 : Int) (x : Int × Hp)   {P : ((Int × Hp) ⊕ (Hp)) → Prop} (hin : ∀ y : Int × Hp, P (.inl y) → ATk (KM k0 0 0 Qp) FN 0 0 M_X0_fillBonds 13 [some (aR 77), some (aI v1), some (aI v2), some (aI y.1), none, none, none] [] y.2) (hout0 : ∀ y : Hp, P (.inr y) → ATk (KM k0 0 0 Qp) FN 0 0 M_X0_fillBonds 56 [some (aR 77), some (aI v1), none, none, none, none, none] [] y) (hh : OK (X0_fillBonds_l13 v1 v2 x) P) : ATk (KM k0 0 0 Qp) FN 0 0 M_X0_fillBonds 13 [some (aR 77), some (aI v1), some (aI v2), some (aI x.1), none, none, none] [] x.2 := by
  unfold X0_fillBonds_l13 at hh
  refine A_blk hM.1 2 (lv1 := [some (aR 77), some (aI v1), some (aI v2), some (aI x.1), none, none, none]) (s1 := [aI v1, aI x.1]) (h1 := x.2) rfl ?_
  refine A_icmp hM.1 rfl rfl (fun hc => ?_) (fun hc => ?_)
  · replace hh := OK_t hh hc
    refine A_mask [true, true, false, false, true, true, true] (lv1 := [some (aR 77), some (aI v1), none, none, none, none, none]) rfl ?_
    exact hout0 x.2 hh
  · replace hh := OK_f hh hc
    refine A_blk hM.1 3 (lv1 := [some (aR 77), some (aI v1), some (aI v2), some (aI x.1), none, none, none]) (s1 := [aI x.1, aR 79]) (h1 := x.2) rfl ?_
    refine A_callSN (host := "QuotedBooks") hM rfl rfl (mem_NW 1450 (by decide +kernel) rfl) mi_X11_at ms_X11_at (As := [aR 79, aI x.1]) (rest := []) (ct_X11_at 79 10 x.1 x.2 rfl rfl (OK_bind hh)) (by decide) ⟨Nat.zero_le _, Nat.zero_le _⟩ rfl rfl (Nat.le_of_ble_eq_true rfl) (fun r F' h' hq1 => ?_)
    obtain ⟨rfl, r2, rfl, e9, hh⟩ := hq1
    subst h'
    refine A_blk hM.1 4 (lv1 := [some (aR 77), some (aI v1), some (aI v2), some (aI x.1), some (aI r2), none, none]) (s1 := [aI v2, aR 3]) (h1 := x.2) rfl ?_
    refine A_callV hM rfl rfl (mem_GW 1490 (by decide +kernel) rfl) mi_X7_bitSubject (As := [aI v2]) (rest := []) (ct_X7_bitSubject v2 x.2 (OK_bind hh)) (by decide) ⟨Nat.zero_le _, Nat.zero_le _⟩ rfl rfl (Nat.le_of_ble_eq_true rfl) (by decide) rfl (by decide) rfl (fun r F' h' hq1 => ?_)
    obtain ⟨rfl, r3, rfl, e9, hh⟩ := hq1
    subst h'
    refine A_blk hM.1 3 (lv1 := [some (aR 77), some (aI v1), some (aI v2), some (aI x.1), some (aI r2), none, none]) (s1 := [aI r2, aR 3, aI r3]) (h1 := x.2) rfl ?_
    refine A_callV hM rfl rfl (mem_GW 1490 (by decide +kernel) rfl) mi_X7_bitSubject (As := [aI r2]) (rest := [aI r3]) (ct_X7_bitSubject r2 x.2 (OK_bind hh)) (by decide) ⟨Nat.zero_le _, Nat.zero_le _⟩ rfl rfl (Nat.le_of_ble_eq_true rfl) (by decide) rfl (by decide) rfl (fun r F' h' hq1 => ?_)
    obtain ⟨rfl, r4, rfl, e9, hh⟩ := hq1
    subst h'
    refine A_blk hM.1 1 (lv1 := [some (aR 77), some (aI v1), some (aI v2), some (aI x.1), some (aI r2), none, none]) (s1 := [aI (r3 - r4)]) (h1 := x.2) rfl ?_
    refine A_abs hM rfl rfl (mem_GW 1491 (by decide +kernel) rfl) (by decide) (Nat.le_of_ble_eq_true rfl) ⟨Nat.zero_le _, Nat.zero_le _⟩ ?_
    refine A_blk hM.1 3 (lv1 := [some (aR 77), some (aI v1), some (aI v2), some (aI x.1), some (aI r2), some (aI (absI (r3 - r4))), none]) (s1 := [aI v2, aR 77]) (h1 := x.2) rfl ?_
    refine A_callV hM rfl rfl (mem_GW 1494 (by decide +kernel) rfl) mi_X0_kindsOf (As := [aI v2]) (rest := []) (ct_X0_kindsOf v2 x.2 (OK_bind hh)) (by decide) ⟨Nat.zero_le _, Nat.zero_le _⟩ rfl rfl (Nat.le_of_ble_eq_true rfl) (by decide) rfl (by decide) rfl (fun r F' h' hq1 => ?_)
    obtain ⟨rfl, r5, rfl, e9, hh⟩ := hq1
    subst h'
    refine A_blk hM.1 2 (lv1 := [some (aR 77), some (aI v1), some (aI v2), some (aI x.1), some (aI r2), some (aI (absI (r3 - r4))), none]) (s1 := [aI r2, aR 77, aL r5]) (h1 := x.2) rfl ?_
    refine A_callV hM rfl rfl (mem_GW 1494 (by decide +kernel) rfl) mi_X0_kindsOf (As := [aI r2]) (rest := [aL r5]) (ct_X0_kindsOf r2 x.2 (OK_bind hh)) (by decide) ⟨Nat.zero_le _, Nat.zero_le _⟩ rfl rfl (Nat.le_of_ble_eq_true rfl) (by decide) rfl (by decide) rfl (fun r F' h' hq1 => ?_)
    obtain ⟨rfl, r6, rfl, e9, hh⟩ := hq1
    subst h'
    refine A_blk hM.1 1 (lv1 := [some (aR 77), some (aI v1), some (aI v2), some (aI x.1), some (aI r2), some (aI (absI (r3 - r4))), none]) (s1 := [aL (and64 r5 r6)]) (h1 := x.2) rfl ?_
    refine A_callS hM rfl rfl (mem_GW 1498 (by decide +kernel) rfl) mi_J13_bitCount ms_J13_bitCount (As := [aL (and64 r5 r6)]) (rest := []) (ct_J13_bitCount (and64 r5 r6) x.2 (OK_bind hh)) (by decide) ⟨Nat.zero_le _, Nat.zero_le _⟩ rfl rfl (Nat.le_of_ble_eq_true rfl) (fun r F' h' hq1 => ?_)
    obtain ⟨rfl, r7, rfl, e9, hh⟩ := hq1
    subst h'
    refine A_blk hM.1 13 (lv1 := [some (aR 77), some (aI v1), some (aI v2), some (aI x.1), some (aI r2), some (aI (absI (r3 - r4))), some (aI r7)]) (s1 := [aI ((4 - (absI (r3 - r4))) + r7), aI ((v1 * 10) + x.1), aR 80]) (h1 := x.2) rfl ?_
    refine A_callSN (host := "QuotedBooks") hM rfl rfl (mem_NW 1451 (by decide +kernel) rfl) mi_X11_put ms_X11_put (As := [aR 80, aI ((v1 * 10) + x.1), aI ((4 - (absI (r3 - r4))) + r7)]) (rest := []) (ct_X11_put 80 100 ((v1 * 10) + x.1) ((4 - (absI (r3 - r4))) + r7) x.2 rfl rfl (OK_bind hh)) (by decide) ⟨Nat.zero_le _, Nat.zero_le _⟩ rfl rfl (Nat.le_of_ble_eq_true rfl) (fun r F' h' hq1 => ?_)
    obtain ⟨rfl, rfl, hh⟩ := hq1
    obtain ⟨r8, rfl⟩ : ∃ z, z = h' := ⟨_, rfl⟩
    refine A_blk hM.1 1 (lv1 := [some (aR 77), some (aI v1), some (aI v2), some (aI (x.1 + 1)), some (aI r2), some (aI (absI (r3 - r4))), some (aI r7)]) (s1 := []) (h1 := r8) rfl ?_
    refine A_go hM.1 rfl rfl ?_
    refine A_mask [true, true, true, true, false, false, false] (lv1 := [some (aR 77), some (aI v1), some (aI v2), some (aI (x.1 + 1)), none, none, none]) rfl ?_
    exact hin (x.1 + 1, r8) hh

set_option maxRecDepth 20000 in
set_option maxHeartbeats 4000000 in
theorem c_X0_fillBonds_l2 {k0 : K0} {G : Gx} {Qp : Option AV → Fx → Hp → Prop} (hM : MB (KM k0 0 0 Qp) G M_X0_fillBonds 4) (x : Int × Hp)   {P : ((Int × Hp) ⊕ (Hp)) → Prop} (hin : ∀ y : Int × Hp, P (.inl y) → ATk (KM k0 0 0 Qp) FN 0 0 M_X0_fillBonds 2 [some (aR 77), some (aI y.1), none, none, none, none, none] [] y.2) (hout0 : ∀ y : Hp, P (.inr y) → ATk (KM k0 0 0 Qp) FN 0 0 M_X0_fillBonds 58 [none, none, none, none, none, none, none] [] y) (hh : OK (X0_fillBonds_l2 x) P) : ATk (KM k0 0 0 Qp) FN 0 0 M_X0_fillBonds 2 [some (aR 77), some (aI x.1), none, none, none, none, none] [] x.2 := by
  unfold X0_fillBonds_l2 at hh
  refine A_blk hM.1 3 (lv1 := [some (aR 77), some (aI x.1), none, none, none, none, none]) (s1 := [aI (x.2 77 7), aI x.1]) (h1 := x.2) rfl ?_
  refine A_icmp hM.1 rfl rfl (fun hc => ?_) (fun hc => ?_)
  · replace hh := OK_t hh hc
    refine A_mask [false, false, true, true, true, true, true] (lv1 := [none, none, none, none, none, none, none]) rfl ?_
    exact hout0 x.2 hh
  · replace hh := OK_f hh hc
    refine A_blk hM.1 3 (lv1 := [some (aR 77), some (aI x.1), none, none, none, none, none]) (s1 := [aI x.1, aR 79]) (h1 := x.2) rfl ?_
    refine A_callSN (host := "QuotedBooks") hM rfl rfl (mem_NW 1450 (by decide +kernel) rfl) mi_X11_at ms_X11_at (As := [aR 79, aI x.1]) (rest := []) (ct_X11_at 79 10 x.1 x.2 rfl rfl (OK_bind hh)) (by decide) ⟨Nat.zero_le _, Nat.zero_le _⟩ rfl rfl (Nat.le_of_ble_eq_true rfl) (fun r F' h' hq1 => ?_)
    obtain ⟨rfl, r1, rfl, e9, hh⟩ := hq1
    subst h'
    refine A_blk hM.1 3 (lv1 := [some (aR 77), some (aI x.1), some (aI r1), some (aI 0), none, none, none]) (s1 := []) (h1 := x.2) rfl ?_
    refine iter_ok (s := (0, x.2)) (Gp := fun z => ATk (KM k0 0 0 Qp) FN 0 0 M_X0_fillBonds 13 [some (aR 77), some (aI x.1), some (aI r1), some (aI z.1), none, none, none] [] z.2) (E := fun z => ATk (KM k0 0 0 Qp) FN 0 0 M_X0_fillBonds 56 [some (aR 77), some (aI x.1), none, none, none, none, none] [] z) (fun z P1 g1 g2 g3 => c_X0_fillBonds_l13 hM x.1 r1 z g2 g3 g1) (OK_bind hh) (fun x9 hh => ?_)
    refine A_blk hM.1 1 (lv1 := [some (aR 77), some (aI (x.1 + 1)), none, none, none, none, none]) (s1 := []) (h1 := x9) rfl ?_
    refine A_go hM.1 rfl rfl ?_
    exact hin (x.1 + 1, x9) hh

set_option maxRecDepth 20000 in
set_option maxHeartbeats 4000000 in
theorem c_X0_fillBonds {k0 : K0} {G : Gx} {Qp : Option AV → Fx → Hp → Prop} (hM : MB (KM k0 0 0 Qp) G M_X0_fillBonds 4) (h : Hp)   {P : Hp → Prop} (hq : ∀ z : Hp, P z → Qp none FN z) (hh : OK (X0_fillBonds h) P) : ATk (KM k0 0 0 Qp) FN 0 0 M_X0_fillBonds 0 [some (aR 77), none, none, none, none, none, none] [] h := by
  unfold X0_fillBonds at hh
  refine A_blk hM.1 2 (lv1 := [some (aR 77), some (aI 0), none, none, none, none, none]) (s1 := []) (h1 := h) rfl ?_
  refine iter_ok (s := (0, h)) (Gp := fun z => ATk (KM k0 0 0 Qp) FN 0 0 M_X0_fillBonds 2 [some (aR 77), some (aI z.1), none, none, none, none, none] [] z.2) (E := fun z => ATk (KM k0 0 0 Qp) FN 0 0 M_X0_fillBonds 58 [none, none, none, none, none, none, none] [] z) (fun z P1 g1 g2 g3 => c_X0_fillBonds_l2 hM  z g2 g3 g1) (OK_bind hh) (fun x10 hh => ?_)
  exact A_retv hM.1 rfl rfl rfl (hq x10 hh)

set_option maxRecDepth 20000 in
set_option maxHeartbeats 4000000 in
theorem ct_X0_fillBonds {G : Gx} (h : Hp)   {P : Hp → Prop} (hh : OK (X0_fillBonds h) P) : CT G yX0_fillBonds M_X0_fillBonds 4 0 0 FN h [aR 77] (fun r F' h' => F' = FN ∧ r = none ∧ P h') :=
  CT.of (by decide +kernel) rfl (Nat.le_of_ble_eq_true rfl) k_X0_fillBonds fun k0 _ _ hM => c_X0_fillBonds hM h (fun z hz => ⟨rfl, rfl, hz⟩) hh

theorem mi_X0_valueOf : MIv yX0_valueOf M_X0_valueOf 1 := ⟨⟨(mem_GW 1502 (by decide +kernel) rfl), (mem_GW 133 (by decide +kernel) rfl), by decide +kernel, by decide +kernel, by decide +kernel, by decide⟩, (mem_GW 1501 (by decide +kernel) rfl), (mem_GW 52 (by decide +kernel) rfl)⟩
set_option maxRecDepth 20000 in
set_option maxHeartbeats 4000000 in
theorem c_X0_valueOf_j44 {k0 : K0} {G : Gx} {Qp : Option AV → Fx → Hp → Prop} (hM : MB (KM k0 0 0 Qp) G M_X0_valueOf 2) (v1 : Int) (v3 : Int) (v4 : Int) (s0 : Int) (s1 : Int) (h : Hp)   {P : ((Int × Int) ⊕ (Int)) → Prop} (hin : ∀ y : Int × Int, P (.inl y) → ATk (KM k0 0 0 Qp) FN 0 0 M_X0_valueOf 10 [some (aR 77), some (aI v1), some (aI y.1), some (aI v3), some (aI y.2), none, none] [] h) (hout0 : ∀ y : Int, P (.inr y) → ATk (KM k0 0 0 Qp) FN 0 0 M_X0_valueOf 48 [some (aR 77), some (aI v1), some (aI y), some (aI v3), none, none, none] [] h) (hh : OK (X0_valueOf_j44 v1 v3 v4 s0 s1 h) P) : ATk (KM k0 0 0 Qp) FN 0 0 M_X0_valueOf 44 [some (aR 77), some (aI v1), none, some (aI v3), some (aI v4), none, none] [aI s1, aI s0] h := by
  unfold X0_valueOf_j44 at hh
  refine A_blk hM.1 3 (lv1 := [some (aR 77), some (aI v1), some (aI (s0 + s1)), some (aI v3), some (aI (v4 + 1)), none, none]) (s1 := []) (h1 := h) rfl ?_
  refine A_go hM.1 rfl rfl ?_
  exact hin (s0 + s1, v4 + 1) hh

set_option maxRecDepth 20000 in
set_option maxHeartbeats 4000000 in
theorem c_X0_valueOf_j27 {k0 : K0} {G : Gx} {Qp : Option AV → Fx → Hp → Prop} (hM : MB (KM k0 0 0 Qp) G M_X0_valueOf 2) (v1 : Int) (v2 : Int) (v3 : Int) (v4 : Int) (s0 : Int) (h : Hp)   {P : ((Int × Int) ⊕ (Int)) → Prop} (hin : ∀ y : Int × Int, P (.inl y) → ATk (KM k0 0 0 Qp) FN 0 0 M_X0_valueOf 10 [some (aR 77), some (aI v1), some (aI y.1), some (aI v3), some (aI y.2), none, none] [] h) (hout0 : ∀ y : Int, P (.inr y) → ATk (KM k0 0 0 Qp) FN 0 0 M_X0_valueOf 48 [some (aR 77), some (aI v1), some (aI y), some (aI v3), none, none, none] [] h) (hh : OK (X0_valueOf_j27 v1 v2 v3 v4 s0 h) P) : ATk (KM k0 0 0 Qp) FN 0 0 M_X0_valueOf 27 [some (aR 77), some (aI v1), some (aI v2), some (aI v3), some (aI v4), none, none] [aI s0] h := by
  unfold X0_valueOf_j27 at hh
  refine A_blk hM.1 8 (lv1 := [some (aR 77), some (aI v1), some (aI v2), some (aI v3), some (aI v4), some (aI s0), none]) (s1 := [aI ((v3 * 10) + v4), aR 80]) (h1 := h) rfl ?_
  refine A_callSN (host := "QuotedBooks") hM rfl rfl (mem_NW 1450 (by decide +kernel) rfl) mi_X11_at ms_X11_at (As := [aR 80, aI ((v3 * 10) + v4)]) (rest := []) (ct_X11_at 80 100 ((v3 * 10) + v4) h rfl rfl (OK_bind hh)) (by decide) ⟨Nat.zero_le _, Nat.zero_le _⟩ rfl rfl (Nat.le_of_ble_eq_true rfl) (fun r F' h' hq1 => ?_)
  obtain ⟨rfl, r1, rfl, e9, hh⟩ := hq1
  subst h'
  refine A_blk hM.1 3 (lv1 := [some (aR 77), some (aI v1), some (aI v2), some (aI v3), some (aI v4), some (aI s0), some (aI r1)]) (s1 := [aI s0, aI v2]) (h1 := h) rfl ?_
  refine A_ifc hM.1 rfl rfl (fun hc => ?_) (fun hc => ?_)
  · replace hh := OK_t hh hc
    refine A_blk hM.1 2 (lv1 := [some (aR 77), some (aI v1), some (aI v2), some (aI v3), some (aI v4), some (aI s0), some (aI r1)]) (s1 := [aI (-r1), aI v2]) (h1 := h) rfl ?_
    refine A_mask [true, true, false, true, true, false, false] (lv1 := [some (aR 77), some (aI v1), none, some (aI v3), some (aI v4), none, none]) rfl ?_
    exact c_X0_valueOf_j44 hM v1 v3 v4 v2 (-r1) h hin hout0 hh
  · replace hh := OK_f hh hc
    refine A_blk hM.1 1 (lv1 := [some (aR 77), some (aI v1), some (aI v2), some (aI v3), some (aI v4), some (aI s0), some (aI r1)]) (s1 := [aI r1, aI v2]) (h1 := h) rfl ?_
    refine A_go hM.1 rfl rfl ?_
    refine A_mask [true, true, false, true, true, false, false] (lv1 := [some (aR 77), some (aI v1), none, some (aI v3), some (aI v4), none, none]) rfl ?_
    exact c_X0_valueOf_j44 hM v1 v3 v4 v2 r1 h hin hout0 hh

set_option maxRecDepth 20000 in
set_option maxHeartbeats 4000000 in
theorem c_X0_valueOf_l10 {k0 : K0} {G : Gx} {Qp : Option AV → Fx → Hp → Prop} (hM : MB (KM k0 0 0 Qp) G M_X0_valueOf 2) (v1 : Int) (v3 : Int) (h : Hp) (x : Int × Int)   {P : ((Int × Int) ⊕ (Int)) → Prop} (hin : ∀ y : Int × Int, P (.inl y) → ATk (KM k0 0 0 Qp) FN 0 0 M_X0_valueOf 10 [some (aR 77), some (aI v1), some (aI y.1), some (aI v3), some (aI y.2), none, none] [] h) (hout0 : ∀ y : Int, P (.inr y) → ATk (KM k0 0 0 Qp) FN 0 0 M_X0_valueOf 48 [some (aR 77), some (aI v1), some (aI y), some (aI v3), none, none, none] [] h) (hh : OK (X0_valueOf_l10 v1 v3 h x) P) : ATk (KM k0 0 0 Qp) FN 0 0 M_X0_valueOf 10 [some (aR 77), some (aI v1), some (aI x.1), some (aI v3), some (aI x.2), none, none] [] h := by
  unfold X0_valueOf_l10 at hh
  refine A_blk hM.1 2 (lv1 := [some (aR 77), some (aI v1), some (aI x.1), some (aI v3), some (aI x.2), none, none]) (s1 := [aI v3, aI x.2]) (h1 := h) rfl ?_
  refine A_icmp hM.1 rfl rfl (fun hc => ?_) (fun hc => ?_)
  · replace hh := OK_t hh hc
    refine A_mask [true, true, true, true, false, true, true] (lv1 := [some (aR 77), some (aI v1), some (aI x.1), some (aI v3), none, none, none]) rfl ?_
    exact hout0 x.1 hh
  · replace hh := OK_f hh hc
    refine A_blk hM.1 10 (lv1 := [some (aR 77), some (aI v1), some (aI x.1), some (aI v3), some (aI x.2), none, none]) (s1 := [aI (and32 (ushr32 v1 x.2) 1), aI (and32 (ushr32 v1 v3) 1)]) (h1 := h) rfl ?_
    refine A_icmp hM.1 rfl rfl (fun hc => ?_) (fun hc => ?_)
    · replace hh := OK_t hh hc
      refine A_blk hM.1 1 (lv1 := [some (aR 77), some (aI v1), some (aI x.1), some (aI v3), some (aI x.2), none, none]) (s1 := [aI 0]) (h1 := h) rfl ?_
      exact c_X0_valueOf_j27 hM v1 x.1 v3 x.2 0 h hin hout0 hh
    · replace hh := OK_f hh hc
      refine A_blk hM.1 1 (lv1 := [some (aR 77), some (aI v1), some (aI x.1), some (aI v3), some (aI x.2), none, none]) (s1 := [aI 1]) (h1 := h) rfl ?_
      refine A_go hM.1 rfl rfl ?_
      exact c_X0_valueOf_j27 hM v1 x.1 v3 x.2 1 h hin hout0 hh

set_option maxRecDepth 20000 in
set_option maxHeartbeats 4000000 in
theorem c_X0_valueOf_l4 {k0 : K0} {G : Gx} {Qp : Option AV → Fx → Hp → Prop} (hM : MB (KM k0 0 0 Qp) G M_X0_valueOf 2) (v1 : Int) (h : Hp) (x : Int × Int)   {P : ((Int × Int) ⊕ (Int)) → Prop} (hin : ∀ y : Int × Int, P (.inl y) → ATk (KM k0 0 0 Qp) FN 0 0 M_X0_valueOf 4 [some (aR 77), some (aI v1), some (aI y.1), some (aI y.2), none, none, none] [] h) (hout0 : ∀ y : Int, P (.inr y) → ATk (KM k0 0 0 Qp) FN 0 0 M_X0_valueOf 50 [none, none, some (aI y), none, none, none, none] [] h) (hh : OK (X0_valueOf_l4 v1 h x) P) : ATk (KM k0 0 0 Qp) FN 0 0 M_X0_valueOf 4 [some (aR 77), some (aI v1), some (aI x.1), some (aI x.2), none, none, none] [] h := by
  unfold X0_valueOf_l4 at hh
  refine A_blk hM.1 3 (lv1 := [some (aR 77), some (aI v1), some (aI x.1), some (aI x.2), none, none, none]) (s1 := [aI (h 77 7), aI x.2]) (h1 := h) rfl ?_
  refine A_icmp hM.1 rfl rfl (fun hc => ?_) (fun hc => ?_)
  · replace hh := OK_t hh hc
    refine A_mask [false, false, true, false, true, true, true] (lv1 := [none, none, some (aI x.1), none, none, none, none]) rfl ?_
    exact hout0 x.1 hh
  · replace hh := OK_f hh hc
    refine A_blk hM.1 2 (lv1 := [some (aR 77), some (aI v1), some (aI x.1), some (aI x.2), some (aI 0), none, none]) (s1 := []) (h1 := h) rfl ?_
    refine iter_ok (s := (x.1, 0)) (Gp := fun z => ATk (KM k0 0 0 Qp) FN 0 0 M_X0_valueOf 10 [some (aR 77), some (aI v1), some (aI z.1), some (aI x.2), some (aI z.2), none, none] [] h) (E := fun z => ATk (KM k0 0 0 Qp) FN 0 0 M_X0_valueOf 48 [some (aR 77), some (aI v1), some (aI z), some (aI x.2), none, none, none] [] h) (fun z P1 g1 g2 g3 => c_X0_valueOf_l10 hM v1 x.2 h z g2 g3 g1) (OK_bind hh) (fun x2 hh => ?_)
    refine A_blk hM.1 1 (lv1 := [some (aR 77), some (aI v1), some (aI x2), some (aI (x.2 + 1)), none, none, none]) (s1 := []) (h1 := h) rfl ?_
    refine A_go hM.1 rfl rfl ?_
    exact hin (x2, x.2 + 1) hh

set_option maxRecDepth 20000 in
set_option maxHeartbeats 4000000 in
theorem c_X0_valueOf {k0 : K0} {G : Gx} {Qp : Option AV → Fx → Hp → Prop} (hM : MB (KM k0 0 0 Qp) G M_X0_valueOf 2) (v1 : Int) (h : Hp)   {P : Int → Prop} (hq : ∀ z : Int, P z → Qp (some (aI z)) FN h) (hh : OK (X0_valueOf v1 h) P) : ATk (KM k0 0 0 Qp) FN 0 0 M_X0_valueOf 0 [some (aR 77), some (aI v1), none, none, none, none, none] [] h := by
  unfold X0_valueOf at hh
  refine A_blk hM.1 4 (lv1 := [some (aR 77), some (aI v1), some (aI 0), some (aI 0), none, none, none]) (s1 := []) (h1 := h) rfl ?_
  refine iter_ok (s := (0, 0)) (Gp := fun z => ATk (KM k0 0 0 Qp) FN 0 0 M_X0_valueOf 4 [some (aR 77), some (aI v1), some (aI z.1), some (aI z.2), none, none, none] [] h) (E := fun z => ATk (KM k0 0 0 Qp) FN 0 0 M_X0_valueOf 50 [none, none, some (aI z), none, none, none, none] [] h) (fun z P1 g1 g2 g3 => c_X0_valueOf_l4 hM v1 h z g2 g3 g1) (OK_bind hh) (fun x3 hh => ?_)
  refine A_blk hM.1 1 (lv1 := [none, none, some (aI x3), none, none, none, none]) (s1 := [aI x3]) (h1 := h) rfl ?_
  exact A_reti hM.1 rfl rfl rfl (hq x3 hh)

set_option maxRecDepth 20000 in
set_option maxHeartbeats 4000000 in
theorem ct_X0_valueOf {G : Gx} (v1 : Int) (h : Hp)   {P : Int → Prop} (hh : OK (X0_valueOf v1 h) P) : CT G yX0_valueOf M_X0_valueOf 2 0 0 FN h [aR 77, aI v1] (fun r F' h' => F' = FN ∧ ∃ z, r = some (aI z) ∧ h' = h ∧ P z) :=
  CT.of (by decide +kernel) rfl (Nat.le_of_ble_eq_true rfl) k_X0_valueOf fun k0 _ _ hM => c_X0_valueOf hM v1 h (fun z hz => ⟨rfl, z, rfl, rfl, hz⟩) hh

theorem mi_X0_bitsOf : MIv yX0_bitsOf M_X0_bitsOf 1 := ⟨⟨(mem_GW 1506 (by decide +kernel) rfl), (mem_GW 133 (by decide +kernel) rfl), by decide +kernel, by decide +kernel, by decide +kernel, by decide⟩, (mem_GW 1505 (by decide +kernel) rfl), (mem_GW 53 (by decide +kernel) rfl)⟩
set_option maxRecDepth 20000 in
set_option maxHeartbeats 4000000 in
theorem c_X0_bitsOf_j24 {k0 : K0} {G : Gx} {Qp : Option AV → Fx → Hp → Prop} (hM : MB (KM k0 0 0 Qp) G M_X0_bitsOf 2) (v1 : Int) (v2 : Int) (v4 : Int) (h : Hp)   {P : ((Int × Int) ⊕ (Int)) → Prop} (hin : ∀ y : Int × Int, P (.inl y) → ATk (KM k0 0 0 Qp) FN 0 0 M_X0_bitsOf 4 [some (aR 77), some (aI v1), some (aL y.1), none, some (aI y.2)] [] h) (hout0 : ∀ y : Int, P (.inr y) → ATk (KM k0 0 0 Qp) FN 0 0 M_X0_bitsOf 26 [none, none, some (aL y), none, none] [] h) (hh : OK (X0_bitsOf_j24 v1 v2 v4 h) P) : ATk (KM k0 0 0 Qp) FN 0 0 M_X0_bitsOf 24 [some (aR 77), some (aI v1), some (aL v2), none, some (aI v4)] [] h := by
  unfold X0_bitsOf_j24 at hh
  refine A_blk hM.1 1 (lv1 := [some (aR 77), some (aI v1), some (aL v2), none, some (aI (v4 + 1))]) (s1 := []) (h1 := h) rfl ?_
  refine A_go hM.1 rfl rfl ?_
  exact hin (v2, v4 + 1) hh

set_option maxRecDepth 20000 in
set_option maxHeartbeats 4000000 in
theorem c_X0_bitsOf_l4 {k0 : K0} {G : Gx} {Qp : Option AV → Fx → Hp → Prop} (hM : MB (KM k0 0 0 Qp) G M_X0_bitsOf 2) (v1 : Int) (h : Hp) (x : Int × Int)   {P : ((Int × Int) ⊕ (Int)) → Prop} (hin : ∀ y : Int × Int, P (.inl y) → ATk (KM k0 0 0 Qp) FN 0 0 M_X0_bitsOf 4 [some (aR 77), some (aI v1), some (aL y.1), none, some (aI y.2)] [] h) (hout0 : ∀ y : Int, P (.inr y) → ATk (KM k0 0 0 Qp) FN 0 0 M_X0_bitsOf 26 [none, none, some (aL y), none, none] [] h) (hh : OK (X0_bitsOf_l4 v1 h x) P) : ATk (KM k0 0 0 Qp) FN 0 0 M_X0_bitsOf 4 [some (aR 77), some (aI v1), some (aL x.1), none, some (aI x.2)] [] h := by
  unfold X0_bitsOf_l4 at hh
  refine A_blk hM.1 3 (lv1 := [some (aR 77), some (aI v1), some (aL x.1), none, some (aI x.2)]) (s1 := [aI (h 77 7), aI x.2]) (h1 := h) rfl ?_
  refine A_icmp hM.1 rfl rfl (fun hc => ?_) (fun hc => ?_)
  · replace hh := OK_t hh hc
    refine A_mask [false, false, true, true, false] (lv1 := [none, none, some (aL x.1), none, none]) rfl ?_
    exact hout0 x.1 hh
  · replace hh := OK_f hh hc
    refine A_blk hM.1 6 (lv1 := [some (aR 77), some (aI v1), some (aL x.1), none, some (aI x.2)]) (s1 := [aI 1, aI (and32 (ushr32 v1 x.2) 1)]) (h1 := h) rfl ?_
    refine A_icmp hM.1 rfl rfl (fun hc => ?_) (fun hc => ?_)
    · replace hh := OK_t hh hc
      exact c_X0_bitsOf_j24 hM v1 x.1 x.2 h hin hout0 hh
    · replace hh := OK_f hh hc
      refine A_blk hM.1 5 (lv1 := [some (aR 77), some (aI v1), some (aL x.1), none, some (aI x.2)]) (s1 := [aI x.2, aR 79, aL 1, aL x.1]) (h1 := h) rfl ?_
      refine A_callSN (host := "QuotedBooks") hM rfl rfl (mem_NW 1450 (by decide +kernel) rfl) mi_X11_at ms_X11_at (As := [aR 79, aI x.2]) (rest := [aL 1, aL x.1]) (ct_X11_at 79 10 x.2 h rfl rfl (OK_bind hh)) (by decide) ⟨Nat.zero_le _, Nat.zero_le _⟩ rfl rfl (Nat.le_of_ble_eq_true rfl) (fun r F' h' hq1 => ?_)
      obtain ⟨rfl, r1, rfl, e9, hh⟩ := hq1
      subst h'
      refine A_blk hM.1 3 (lv1 := [some (aR 77), some (aI v1), some (aL (or64 x.1 (shl64 1 r1))), none, some (aI x.2)]) (s1 := []) (h1 := h) rfl ?_
      exact c_X0_bitsOf_j24 hM v1 (or64 x.1 (shl64 1 r1)) x.2 h hin hout0 hh

set_option maxRecDepth 20000 in
set_option maxHeartbeats 4000000 in
theorem c_X0_bitsOf {k0 : K0} {G : Gx} {Qp : Option AV → Fx → Hp → Prop} (hM : MB (KM k0 0 0 Qp) G M_X0_bitsOf 2) (v1 : Int) (h : Hp)   {P : Int → Prop} (hq : ∀ z : Int, P z → Qp (some (aL z)) FN h) (hh : OK (X0_bitsOf v1 h) P) : ATk (KM k0 0 0 Qp) FN 0 0 M_X0_bitsOf 0 [some (aR 77), some (aI v1), none, none, none] [] h := by
  unfold X0_bitsOf at hh
  refine A_blk hM.1 4 (lv1 := [some (aR 77), some (aI v1), some (aL 0), none, some (aI 0)]) (s1 := []) (h1 := h) rfl ?_
  refine iter_ok (s := (0, 0)) (Gp := fun z => ATk (KM k0 0 0 Qp) FN 0 0 M_X0_bitsOf 4 [some (aR 77), some (aI v1), some (aL z.1), none, some (aI z.2)] [] h) (E := fun z => ATk (KM k0 0 0 Qp) FN 0 0 M_X0_bitsOf 26 [none, none, some (aL z), none, none] [] h) (fun z P1 g1 g2 g3 => c_X0_bitsOf_l4 hM v1 h z g2 g3 g1) (OK_bind hh) (fun x2 hh => ?_)
  refine A_blk hM.1 1 (lv1 := [none, none, some (aL x2), none, none]) (s1 := [aL x2]) (h1 := h) rfl ?_
  exact A_retl hM.1 rfl rfl rfl (hq x2 hh)

set_option maxRecDepth 20000 in
set_option maxHeartbeats 4000000 in
theorem ct_X0_bitsOf {G : Gx} (v1 : Int) (h : Hp)   {P : Int → Prop} (hh : OK (X0_bitsOf v1 h) P) : CT G yX0_bitsOf M_X0_bitsOf 2 0 0 FN h [aR 77, aI v1] (fun r F' h' => F' = FN ∧ ∃ z, r = some (aL z) ∧ h' = h ∧ P z) :=
  CT.of (by decide +kernel) rfl (Nat.le_of_ble_eq_true rfl) k_X0_bitsOf fun k0 _ _ hM => c_X0_bitsOf hM v1 h (fun z hz => ⟨rfl, z, rfl, rfl, hz⟩) hh

theorem mi_X0_cut : MIv yX0_cut M_X0_cut 1 := ⟨⟨(mem_GW 1485 (by decide +kernel) rfl), (mem_GW 133 (by decide +kernel) rfl), by decide +kernel, by decide +kernel, by decide +kernel, by decide⟩, (mem_GW 1483 (by decide +kernel) rfl), (mem_GW 1484 (by decide +kernel) rfl)⟩
set_option maxRecDepth 20000 in
set_option maxHeartbeats 4000000 in
theorem c_X0_cut_j31 {k0 : K0} {G : Gx} {Qp : Option AV → Fx → Hp → Prop} (hM : MB (KM k0 0 0 Qp) G M_X0_cut 5) (v1 : Int) (v2 : Int) (h : Hp)   {P : ((Int × Hp) ⊕ (Hp)) → Prop} (hin : ∀ y : Int × Hp, P (.inl y) → ATk (KM k0 0 0 Qp) FN 0 0 M_X0_cut 5 [some (aR 77), some (aI v1), some (aI y.1), none, none] [] y.2) (hout0 : ∀ y : Hp, P (.inr y) → ATk (KM k0 0 0 Qp) FN 0 0 M_X0_cut 33 [some (aR 77), none, none, none, none] [] y) (hh : OK (X0_cut_j31 v1 v2 h) P) : ATk (KM k0 0 0 Qp) FN 0 0 M_X0_cut 31 [some (aR 77), some (aI v1), some (aI v2), none, none] [] h := by
  unfold X0_cut_j31 at hh
  refine A_blk hM.1 1 (lv1 := [some (aR 77), some (aI v1), some (aI (v2 + 1)), none, none]) (s1 := []) (h1 := h) rfl ?_
  refine A_go hM.1 rfl rfl ?_
  exact hin (v2 + 1, h) hh

set_option maxRecDepth 20000 in
set_option maxHeartbeats 4000000 in
theorem c_X0_cut_l5 {k0 : K0} {G : Gx} {Qp : Option AV → Fx → Hp → Prop} (hM : MB (KM k0 0 0 Qp) G M_X0_cut 5) (v1 : Int) (x : Int × Hp)   {P : ((Int × Hp) ⊕ (Hp)) → Prop} (hin : ∀ y : Int × Hp, P (.inl y) → ATk (KM k0 0 0 Qp) FN 0 0 M_X0_cut 5 [some (aR 77), some (aI v1), some (aI y.1), none, none] [] y.2) (hout0 : ∀ y : Hp, P (.inr y) → ATk (KM k0 0 0 Qp) FN 0 0 M_X0_cut 33 [some (aR 77), none, none, none, none] [] y) (hh : OK (X0_cut_l5 v1 x) P) : ATk (KM k0 0 0 Qp) FN 0 0 M_X0_cut 5 [some (aR 77), some (aI v1), some (aI x.1), none, none] [] x.2 := by
  unfold X0_cut_l5 at hh
  refine A_blk hM.1 3 (lv1 := [some (aR 77), some (aI v1), some (aI x.1), none, none]) (s1 := [aR 3, aI x.1]) (h1 := x.2) rfl ?_
  refine A_callV hM rfl rfl (mem_GW 1452 (by decide +kernel) rfl) mi_X7_bits (As := []) (rest := [aI x.1]) (ct_X7_bits x.2 (OK_bind hh)) (by decide) ⟨Nat.zero_le _, Nat.zero_le _⟩ rfl rfl (Nat.le_of_ble_eq_true rfl) (by decide) rfl (by decide) rfl (fun r F' h' hq1 => ?_)
  obtain ⟨rfl, r1, rfl, e9, hh⟩ := hq1
  subst h'
  refine A_icmp hM.1 rfl rfl (fun hc => ?_) (fun hc => ?_)
  · replace hh := OK_t hh hc
    refine A_mask [true, false, false, true, true] (lv1 := [some (aR 77), none, none, none, none]) rfl ?_
    exact hout0 x.2 hh
  · replace hh := OK_f hh hc
    refine A_blk hM.1 5 (lv1 := [some (aR 77), some (aI v1), some (aI x.1), none, none]) (s1 := [aI x.1, aR 3, aR 3]) (h1 := x.2) rfl ?_
    refine A_callV hM rfl rfl (mem_GW 1453 (by decide +kernel) rfl) mi_X7_bitWork (As := [aI x.1]) (rest := [aR 3]) (ct_X7_bitWork x.1 x.2 (OK_bind hh)) (by decide) ⟨Nat.zero_le _, Nat.zero_le _⟩ rfl rfl (Nat.le_of_ble_eq_true rfl) (by decide) rfl (by decide) rfl (fun r F' h' hq1 => ?_)
    obtain ⟨rfl, r2, rfl, e9, hh⟩ := hq1
    subst h'
    refine A_callV hM rfl rfl (mem_GW 1440 (by decide +kernel) rfl) mi_X7_authorOf (As := [aI r2]) (rest := []) (ct_X7_authorOf r2 x.2 (OK_bind hh)) (by decide) ⟨Nat.zero_le _, Nat.zero_le _⟩ rfl rfl (Nat.le_of_ble_eq_true rfl) (by decide) rfl (by decide) rfl (fun r F' h' hq1 => ?_)
    obtain ⟨rfl, r3, rfl, e9, hh⟩ := hq1
    subst h'
    refine A_blk hM.1 1 (lv1 := [some (aR 77), some (aI v1), some (aI x.1), none, none]) (s1 := [aI v1, aI r3]) (h1 := x.2) rfl ?_
    refine A_icmp hM.1 rfl rfl (fun hc => ?_) (fun hc => ?_)
    · replace hh := OK_t hh hc
      exact c_X0_cut_j31 hM v1 x.1 x.2 hin hout0 hh
    · replace hh := OK_f hh hc
      refine A_blk hM.1 5 (lv1 := [some (aR 77), some (aI v1), some (aI x.1), none, none]) (s1 := [aI x.1, aI (x.2 77 7), aR 79]) (h1 := x.2) rfl ?_
      refine A_callSN (host := "QuotedBooks") hM rfl rfl (mem_NW 1451 (by decide +kernel) rfl) mi_X11_put ms_X11_put (As := [aR 79, aI (x.2 77 7), aI x.1]) (rest := []) (ct_X11_put 79 10 (x.2 77 7) x.1 x.2 rfl rfl (OK_bind hh)) (by decide) ⟨Nat.zero_le _, Nat.zero_le _⟩ rfl rfl (Nat.le_of_ble_eq_true rfl) (fun r F' h' hq1 => ?_)
      obtain ⟨rfl, rfl, hh⟩ := hq1
      obtain ⟨r4, rfl⟩ : ∃ z, z = h' := ⟨_, rfl⟩
      refine A_blk hM.1 6 (lv1 := [some (aR 77), some (aI v1), some (aI x.1), none, none]) (s1 := []) (h1 := setH r4 77 7 ((r4 77 7) + 1)) rfl ?_
      exact c_X0_cut_j31 hM v1 x.1 (setH r4 77 7 ((r4 77 7) + 1)) hin hout0 hh

set_option maxRecDepth 20000 in
set_option maxHeartbeats 4000000 in
theorem c_X0_cut_j73 {k0 : K0} {G : Gx} {Qp : Option AV → Fx → Hp → Prop} (hM : MB (KM k0 0 0 Qp) G M_X0_cut 5) (v2 : Int) (v3 : Int) (h : Hp)   {P : ((Int × Int × Hp) ⊕ (Int × Hp)) → Prop} (hin : ∀ y : Int × Int × Hp, P (.inl y) → ATk (KM k0 0 0 Qp) FN 0 0 M_X0_cut 54 [some (aR 77), none, some (aI y.1), some (aI y.2.1), none] [] y.2.2) (hout0 : ∀ y : Int × Hp, P (.inr y) → ATk (KM k0 0 0 Qp) FN 0 0 M_X0_cut 75 [some (aR 77), none, some (aI y.1), none, none] [] y.2) (hh : OK (X0_cut_j73 v2 v3 h) P) : ATk (KM k0 0 0 Qp) FN 0 0 M_X0_cut 73 [some (aR 77), none, some (aI v2), some (aI v3), none] [] h := by
  unfold X0_cut_j73 at hh
  refine A_blk hM.1 1 (lv1 := [some (aR 77), none, some (aI v2), some (aI (v3 + 2)), none]) (s1 := []) (h1 := h) rfl ?_
  refine A_go hM.1 rfl rfl ?_
  exact hin (v2, v3 + 2, h) hh

set_option maxRecDepth 20000 in
set_option maxHeartbeats 4000000 in
theorem c_X0_cut_l54 {k0 : K0} {G : Gx} {Qp : Option AV → Fx → Hp → Prop} (hM : MB (KM k0 0 0 Qp) G M_X0_cut 5) (x : Int × Int × Hp)   {P : ((Int × Int × Hp) ⊕ (Int × Hp)) → Prop} (hin : ∀ y : Int × Int × Hp, P (.inl y) → ATk (KM k0 0 0 Qp) FN 0 0 M_X0_cut 54 [some (aR 77), none, some (aI y.1), some (aI y.2.1), none] [] y.2.2) (hout0 : ∀ y : Int × Hp, P (.inr y) → ATk (KM k0 0 0 Qp) FN 0 0 M_X0_cut 75 [some (aR 77), none, some (aI y.1), none, none] [] y.2) (hh : OK (X0_cut_l54 x) P) : ATk (KM k0 0 0 Qp) FN 0 0 M_X0_cut 54 [some (aR 77), none, some (aI x.1), some (aI x.2.1), none] [] x.2.2 := by
  unfold X0_cut_l54 at hh
  refine A_blk hM.1 5 (lv1 := [some (aR 77), none, some (aI x.1), some (aI x.2.1), none]) (s1 := [aI (shl32 1 (x.2.2 77 7)), aI x.2.1]) (h1 := x.2.2) rfl ?_
  refine A_icmp hM.1 rfl rfl (fun hc => ?_) (fun hc => ?_)
  · replace hh := OK_t hh hc
    refine A_mask [true, true, true, false, true] (lv1 := [some (aR 77), none, some (aI x.1), none, none]) rfl ?_
    exact hout0 (x.1, x.2.2) hh
  · replace hh := OK_f hh hc
    refine A_blk hM.1 2 (lv1 := [some (aR 77), none, some (aI x.1), some (aI x.2.1), none]) (s1 := [aI x.2.1, aR 77]) (h1 := x.2.2) rfl ?_
    refine A_callV hM rfl rfl (mem_GW 1499 (by decide +kernel) rfl) mi_X0_valueOf (As := [aI x.2.1]) (rest := []) (ct_X0_valueOf x.2.1 x.2.2 (OK_bind hh)) (by decide) ⟨Nat.zero_le _, Nat.zero_le _⟩ rfl rfl (Nat.le_of_ble_eq_true rfl) (by decide) rfl (by decide) rfl (fun r F' h' hq1 => ?_)
    obtain ⟨rfl, r8, rfl, e9, hh⟩ := hq1
    subst h'
    refine A_blk hM.1 4 (lv1 := [some (aR 77), none, some (aI x.1), some (aI x.2.1), some (aI r8)]) (s1 := [aI (x.2.2 77 11), aI r8]) (h1 := x.2.2) rfl ?_
    refine A_icmp hM.1 rfl rfl (fun hc => ?_) (fun hc => ?_)
    · replace hh := OK_t hh hc
      refine A_mask [true, true, true, true, false] (lv1 := [some (aR 77), none, some (aI x.1), some (aI x.2.1), none]) rfl ?_
      exact c_X0_cut_j73 hM x.1 x.2.1 x.2.2 hin hout0 hh
    · replace hh := OK_f hh hc
      refine A_blk hM.1 5 (lv1 := [some (aR 77), none, some (aI x.2.1), some (aI x.2.1), some (aI r8)]) (s1 := []) (h1 := setH x.2.2 77 11 r8) rfl ?_
      refine A_mask [true, true, true, true, false] (lv1 := [some (aR 77), none, some (aI x.2.1), some (aI x.2.1), none]) rfl ?_
      exact c_X0_cut_j73 hM x.2.1 x.2.1 (setH x.2.2 77 11 r8) hin hout0 hh

set_option maxRecDepth 20000 in
set_option maxHeartbeats 4000000 in
theorem c_X0_cut {k0 : K0} {G : Gx} {Qp : Option AV → Fx → Hp → Prop} (hM : MB (KM k0 0 0 Qp) G M_X0_cut 5) (v1 : Int) (h : Hp)   {P : (Int × Hp) → Prop} (hq : ∀ z : Int × Hp, P z → Qp (some (aI z.1)) FN z.2) (hh : OK (X0_cut v1 h) P) : ATk (KM k0 0 0 Qp) FN 0 0 M_X0_cut 0 [some (aR 77), some (aI v1), none, none, none] [] h := by
  unfold X0_cut at hh
  refine A_blk hM.1 5 (lv1 := [some (aR 77), some (aI v1), some (aI 0), none, none]) (s1 := []) (h1 := setH h 77 7 0) rfl ?_
  refine iter_ok (s := (0, setH h 77 7 0)) (Gp := fun z => ATk (KM k0 0 0 Qp) FN 0 0 M_X0_cut 5 [some (aR 77), some (aI v1), some (aI z.1), none, none] [] z.2) (E := fun z => ATk (KM k0 0 0 Qp) FN 0 0 M_X0_cut 33 [some (aR 77), none, none, none, none] [] z) (fun z P1 g1 g2 g3 => c_X0_cut_l5 hM v1 z g2 g3 g1) (OK_bind hh) (fun x5 hh => ?_)
  refine A_blk hM.1 3 (lv1 := [some (aR 77), none, none, none, none]) (s1 := [aI 1, aI (x5 77 7)]) (h1 := x5) rfl ?_
  refine A_icmp hM.1 rfl rfl (fun hc => ?_) (fun hc => ?_)
  · replace hh := OK_t hh hc
    refine A_blk hM.1 1 (lv1 := [some (aR 77), none, none, none, none]) (s1 := [aI 0]) (h1 := x5) rfl ?_
    exact A_retz hM.1 rfl rfl rfl (by decide) (hq (0, x5) hh)
  · replace hh := OK_f hh hc
    refine A_blk hM.1 3 (lv1 := [some (aR 77), none, none, none, none]) (s1 := [aI 10, aI (x5 77 7)]) (h1 := x5) rfl ?_
    refine A_icmp hM.1 rfl rfl (fun hc => ?_) (fun hc => ?_)
    · replace hh := OK_t hh hc
      refine A_blk hM.1 1 (lv1 := [some (aR 77), none, none, none, none]) (s1 := [aR 77]) (h1 := x5) rfl ?_
      refine A_callV hM rfl rfl (mem_GW 1486 (by decide +kernel) rfl) mi_X0_fillBonds (As := []) (rest := []) (ct_X0_fillBonds x5 (OK_bind hh)) (by decide) ⟨Nat.zero_le _, Nat.zero_le _⟩ rfl rfl (Nat.le_of_ble_eq_true rfl) (by decide) rfl (by decide) rfl (fun r F' h' hq1 => ?_)
      obtain ⟨rfl, rfl, hh⟩ := hq1
      obtain ⟨r6, rfl⟩ : ∃ z, z = h' := ⟨_, rfl⟩
      refine A_blk hM.1 5 (lv1 := [some (aR 77), none, some (aI 0), none, none]) (s1 := [aI 0, aR 77, aR 77]) (h1 := r6) rfl ?_
      refine A_callV hM rfl rfl (mem_GW 1499 (by decide +kernel) rfl) mi_X0_valueOf (As := [aI 0]) (rest := [aR 77]) (ct_X0_valueOf 0 r6 (OK_bind hh)) (by decide) ⟨Nat.zero_le _, Nat.zero_le _⟩ rfl rfl (Nat.le_of_ble_eq_true rfl) (by decide) rfl (by decide) rfl (fun r F' h' hq1 => ?_)
      obtain ⟨rfl, r7, rfl, e9, hh⟩ := hq1
      subst h'
      refine A_blk hM.1 3 (lv1 := [some (aR 77), none, some (aI 0), some (aI 2), none]) (s1 := []) (h1 := setH r6 77 11 r7) rfl ?_
      refine iter_ok (s := (0, 2, setH r6 77 11 r7)) (Gp := fun z => ATk (KM k0 0 0 Qp) FN 0 0 M_X0_cut 54 [some (aR 77), none, some (aI z.1), some (aI z.2.1), none] [] z.2.2) (E := fun z => ATk (KM k0 0 0 Qp) FN 0 0 M_X0_cut 75 [some (aR 77), none, some (aI z.1), none, none] [] z.2) (fun z P1 g1 g2 g3 => c_X0_cut_l54 hM  z g2 g3 g1) (OK_bind hh) (fun x9 hh => ?_)
      refine A_blk hM.1 3 (lv1 := [some (aR 77), none, some (aI x9.1), none, none]) (s1 := [aI x9.1, aR 77, aR 77]) (h1 := x9.2) rfl ?_
      refine A_callV hM rfl rfl (mem_GW 1503 (by decide +kernel) rfl) mi_X0_bitsOf (As := [aI x9.1]) (rest := [aR 77]) (ct_X0_bitsOf x9.1 x9.2 (OK_bind hh)) (by decide) ⟨Nat.zero_le _, Nat.zero_le _⟩ rfl rfl (Nat.le_of_ble_eq_true rfl) (by decide) rfl (by decide) rfl (fun r F' h' hq1 => ?_)
      obtain ⟨rfl, r10, rfl, e9, hh⟩ := hq1
      subst h'
      refine A_blk hM.1 2 (lv1 := [some (aR 77), none, some (aI x9.1), none, none]) (s1 := [aI 1]) (h1 := setH x9.2 77 10 r10) rfl ?_
      exact A_retz hM.1 rfl rfl rfl (by decide) (hq (1, setH x9.2 77 10 r10) hh)
    · replace hh := OK_f hh hc
      refine A_blk hM.1 1 (lv1 := [some (aR 77), none, none, none, none]) (s1 := [aI 0]) (h1 := x5) rfl ?_
      exact A_retz hM.1 rfl rfl rfl (by decide) (hq (0, x5) hh)

set_option maxRecDepth 20000 in
set_option maxHeartbeats 4000000 in
theorem ct_X0_cut {G : Gx} (v1 : Int) (h : Hp)   {P : (Int × Hp) → Prop} (hh : OK (X0_cut v1 h) P) : CT G yX0_cut M_X0_cut 5 0 0 FN h [aR 77, aI v1] (fun r F' h' => F' = FN ∧ ∃ z, r = some (aI z.1) ∧ h' = z.2 ∧ P z) :=
  CT.of (by decide +kernel) rfl (Nat.le_of_ble_eq_true rfl) k_X0_cut fun k0 _ _ hM => c_X0_cut hM v1 h (fun z hz => ⟨rfl, z, rfl, rfl, hz⟩) hh

theorem mi_X0_secondMan : MIv yX0_secondMan M_X0_secondMan 0 := ⟨⟨(mem_GW 1511 (by decide +kernel) rfl), (mem_GW 133 (by decide +kernel) rfl), by decide +kernel, by decide +kernel, by decide +kernel, by decide⟩, (mem_GW 1509 (by decide +kernel) rfl), (mem_GW 1510 (by decide +kernel) rfl)⟩
set_option maxRecDepth 20000 in
set_option maxHeartbeats 4000000 in
theorem c_X0_secondMan {k0 : K0} {G : Gx} {Qp : Option AV → Fx → Hp → Prop} (hM : MB (KM k0 0 0 Qp) G M_X0_secondMan 1) (h : Hp)   {P : Int → Prop} (hq : ∀ z : Int, P z → Qp (some (aL z)) FN h) (hh : OK (X0_secondMan h) P) : ATk (KM k0 0 0 Qp) FN 0 0 M_X0_secondMan 0 [some (aR 77)] [] h := by
  unfold X0_secondMan at hh
  refine A_blk hM.1 2 (lv1 := [some (aR 77)]) (s1 := [aL (h 77 10)]) (h1 := h) rfl ?_
  exact A_retl hM.1 rfl rfl rfl (hq (h 77 10) hh)

set_option maxRecDepth 20000 in
set_option maxHeartbeats 4000000 in
theorem ct_X0_secondMan {G : Gx} (h : Hp)   {P : Int → Prop} (hh : OK (X0_secondMan h) P) : CT G yX0_secondMan M_X0_secondMan 1 0 0 FN h [aR 77] (fun r F' h' => F' = FN ∧ ∃ z, r = some (aL z) ∧ h' = h ∧ P z) :=
  CT.of (by decide +kernel) rfl (Nat.le_of_ble_eq_true rfl) k_X0_secondMan fun k0 _ _ hM => c_X0_secondMan hM h (fun z hz => ⟨rfl, z, rfl, rfl, hz⟩) hh

theorem mi_X0_cutValue : MIv yX0_cutValue M_X0_cutValue 0 := ⟨⟨(mem_GW 1515 (by decide +kernel) rfl), (mem_GW 133 (by decide +kernel) rfl), by decide +kernel, by decide +kernel, by decide +kernel, by decide⟩, (mem_GW 1513 (by decide +kernel) rfl), (mem_GW 1514 (by decide +kernel) rfl)⟩
set_option maxRecDepth 20000 in
set_option maxHeartbeats 4000000 in
theorem c_X0_cutValue {k0 : K0} {G : Gx} {Qp : Option AV → Fx → Hp → Prop} (hM : MB (KM k0 0 0 Qp) G M_X0_cutValue 1) (h : Hp)   {P : Int → Prop} (hq : ∀ z : Int, P z → Qp (some (aI z)) FN h) (hh : OK (X0_cutValue h) P) : ATk (KM k0 0 0 Qp) FN 0 0 M_X0_cutValue 0 [some (aR 77)] [] h := by
  unfold X0_cutValue at hh
  refine A_blk hM.1 2 (lv1 := [some (aR 77)]) (s1 := [aI (h 77 11)]) (h1 := h) rfl ?_
  exact A_reti hM.1 rfl rfl rfl (hq (h 77 11) hh)

set_option maxRecDepth 20000 in
set_option maxHeartbeats 4000000 in
theorem ct_X0_cutValue {G : Gx} (h : Hp)   {P : Int → Prop} (hh : OK (X0_cutValue h) P) : CT G yX0_cutValue M_X0_cutValue 1 0 0 FN h [aR 77] (fun r F' h' => F' = FN ∧ ∃ z, r = some (aI z) ∧ h' = h ∧ P z) :=
  CT.of (by decide +kernel) rfl (Nat.le_of_ble_eq_true rfl) k_X0_cutValue fun k0 _ _ hM => c_X0_cutValue hM h (fun z hz => ⟨rfl, z, rfl, rfl, hz⟩) hh

theorem mi_X11_men : MIv yX11_men M_X11_men 2 := ⟨⟨(mem_GW 1481 (by decide +kernel) rfl), (mem_GW 123 (by decide +kernel) rfl), by decide +kernel, by decide +kernel, by decide +kernel, by decide⟩, (mem_GW 1479 (by decide +kernel) rfl), (mem_GW 1480 (by decide +kernel) rfl)⟩
set_option maxRecDepth 20000 in
set_option maxHeartbeats 4000000 in
theorem c_X11_men {k0 : K0} {G : Gx} {Qp : Option AV → Fx → Hp → Prop} (hM : MB (KM k0 0 0 Qp) G M_X11_men 6) (v1 : Int) (v2 : Int) (h : Hp)   {P : (Int × Hp) → Prop} (hq : ∀ z : Int × Hp, P z → Qp (some (aL z.1)) FN z.2) (hh : OK (X11_men v1 v2 h) P) : ATk (KM k0 0 0 Qp) FN 0 0 M_X11_men 0 [some (aR 0), some (aI v1), some (aI v2)] [] h := by
  unfold X11_men at hh
  refine A_blk hM.1 3 (lv1 := [some (aR 0), some (aI v1), some (aI v2)]) (s1 := [aI v1, aR 3]) (h1 := h) rfl ?_
  refine A_callV hM rfl rfl (mem_GW 590 (by decide +kernel) rfl) mi_X7_isAuthor (As := [aI v1]) (rest := []) (ct_X7_isAuthor v1 h (OK_bind hh)) (by decide) ⟨Nat.zero_le _, Nat.zero_le _⟩ rfl rfl (Nat.le_of_ble_eq_true rfl) (by decide) rfl (by decide) rfl (fun r F' h' hq1 => ?_)
  obtain ⟨rfl, r1, rfl, e9, hh⟩ := hq1
  subst h'
  refine A_ifc hM.1 rfl rfl (fun hc => ?_) (fun hc => ?_)
  · replace hh := OK_t hh hc
    refine A_blk hM.1 1 (lv1 := [some (aR 0), some (aI v1), some (aI v2)]) (s1 := [aL (-1000000)]) (h1 := h) rfl ?_
    exact A_retl hM.1 rfl rfl rfl (hq ((-1000000), h) hh)
  · replace hh := OK_f hh hc
    refine A_blk hM.1 3 (lv1 := [some (aR 0), some (aI v1), some (aI v2)]) (s1 := [aI 1, aI 0, aI v2]) (h1 := h) rfl ?_
    refine A_callS hM rfl rfl (mem_GW 576 (by decide +kernel) rfl) mi_X11_within ms_X11_within (As := [aI v2, aI 0, aI 1]) (rest := []) (ct_X11_within v2 0 1 h (OK_bind hh)) (by decide) ⟨Nat.zero_le _, Nat.zero_le _⟩ rfl rfl (Nat.le_of_ble_eq_true rfl) (fun r F' h' hq1 => ?_)
    obtain ⟨rfl, r2, rfl, e9, hh⟩ := hq1
    subst h'
    refine A_ifc hM.1 rfl rfl (fun hc => ?_) (fun hc => ?_)
    · replace hh := OK_t hh hc
      refine A_blk hM.1 1 (lv1 := [some (aR 0), some (aI v1), some (aI v2)]) (s1 := [aL (-1000000)]) (h1 := h) rfl ?_
      exact A_retl hM.1 rfl rfl rfl (hq ((-1000000), h) hh)
    · replace hh := OK_f hh hc
      refine A_blk hM.1 3 (lv1 := [some (aR 0), some (aI v1), some (aI v2)]) (s1 := [aI v1, aR 77]) (h1 := h) rfl ?_
      refine A_callV hM rfl rfl (mem_GW 1482 (by decide +kernel) rfl) mi_X0_cut (As := [aI v1]) (rest := []) (ct_X0_cut v1 h (OK_bind hh)) (by decide) ⟨Nat.zero_le _, Nat.zero_le _⟩ rfl rfl (Nat.le_of_ble_eq_true rfl) (by decide) rfl (by decide) rfl (fun r F' h' hq1 => ?_)
      obtain ⟨rfl, r3, rfl, e9, hh⟩ := hq1
      subst h'
      refine A_ifc hM.1 rfl rfl (fun hc => ?_) (fun hc => ?_)
      · replace hh := OK_t hh hc
        refine A_blk hM.1 1 (lv1 := [some (aR 0), some (aI v1), some (aI v2)]) (s1 := [aI v2]) (h1 := r3.2) rfl ?_
        refine A_ifc hM.1 rfl rfl (fun hc => ?_) (fun hc => ?_)
        · replace hh := OK_t hh hc
          refine A_blk hM.1 2 (lv1 := [some (aR 0), some (aI v1), some (aI v2)]) (s1 := [aR 77]) (h1 := r3.2) rfl ?_
          refine A_callV hM rfl rfl (mem_GW 1512 (by decide +kernel) rfl) mi_X0_cutValue (As := []) (rest := []) (ct_X0_cutValue r3.2 (OK_bind hh)) (by decide) ⟨Nat.zero_le _, Nat.zero_le _⟩ rfl rfl (Nat.le_of_ble_eq_true rfl) (by decide) rfl (by decide) rfl (fun r F' h' hq1 => ?_)
          obtain ⟨rfl, r4, rfl, e9, hh⟩ := hq1
          subst h'
          refine A_blk hM.1 1 (lv1 := [some (aR 0), some (aI v1), some (aI v2)]) (s1 := [aL (w32 r4)]) (h1 := r3.2) rfl ?_
          exact A_retl hM.1 rfl rfl rfl (hq (w32 r4, r3.2) hh)
        · replace hh := OK_f hh hc
          refine A_blk hM.1 2 (lv1 := [some (aR 0), some (aI v1), some (aI v2)]) (s1 := [aR 77]) (h1 := r3.2) rfl ?_
          refine A_callV hM rfl rfl (mem_GW 1508 (by decide +kernel) rfl) mi_X0_secondMan (As := []) (rest := []) (ct_X0_secondMan r3.2 (OK_bind hh)) (by decide) ⟨Nat.zero_le _, Nat.zero_le _⟩ rfl rfl (Nat.le_of_ble_eq_true rfl) (by decide) rfl (by decide) rfl (fun r F' h' hq1 => ?_)
          obtain ⟨rfl, r5, rfl, e9, hh⟩ := hq1
          subst h'
          refine A_go hM.1 rfl rfl ?_
          exact A_retl hM.1 rfl rfl rfl (hq (r5, r3.2) hh)
      · replace hh := OK_f hh hc
        refine A_blk hM.1 1 (lv1 := [some (aR 0), some (aI v1), some (aI v2)]) (s1 := [aL (-1000000)]) (h1 := r3.2) rfl ?_
        exact A_retl hM.1 rfl rfl rfl (hq ((-1000000), r3.2) hh)

set_option maxRecDepth 20000 in
set_option maxHeartbeats 4000000 in
theorem ct_X11_men {G : Gx} (v1 : Int) (v2 : Int) (h : Hp)   {P : (Int × Hp) → Prop} (hh : OK (X11_men v1 v2 h) P) : CT G yX11_men M_X11_men 6 0 0 FN h [aR 0, aI v1, aI v2] (fun r F' h' => F' = FN ∧ ∃ z, r = some (aL z.1) ∧ h' = z.2 ∧ P z) :=
  CT.of (by decide +kernel) rfl (Nat.le_of_ble_eq_true rfl) k_X11_men fun k0 _ _ hM => c_X11_men hM v1 v2 h (fun z hz => ⟨rfl, z, rfl, rfl, hz⟩) hh

theorem mi_X3_give : MIv yX3_give M_X3_give 3 := ⟨⟨(mem_GW 1523 (by decide +kernel) rfl), (mem_GW 134 (by decide +kernel) rfl), by decide +kernel, by decide +kernel, by decide +kernel, by decide⟩, (mem_GW 1521 (by decide +kernel) rfl), (mem_GW 1522 (by decide +kernel) rfl)⟩
set_option maxRecDepth 20000 in
set_option maxHeartbeats 4000000 in
theorem c_X3_give_j18 {k0 : K0} {G : Gx} {Qp : Option AV → Fx → Hp → Prop} (hM : MB (KM k0 0 0 Qp) G M_X3_give 2) (v1 : Int) (v2 : Int) (v3 : Int) (h : Hp)   {P : (Int × Hp) → Prop} (hq : ∀ z : Int × Hp, P z → Qp (some (aI z.1)) FN z.2) (hh : OK (X3_give_j18 v1 v2 v3 h) P) : ATk (KM k0 0 0 Qp) FN 0 0 M_X3_give 18 [some (aR 81), some (aI v1), some (aI v2), some (aI v3)] [] h := by
  unfold X3_give_j18 at hh
  refine A_blk hM.1 5 (lv1 := [some (aR 81), some (aI v1), some (aI v2), some (aI v3)]) (s1 := [aI v1, aI (h 81 1), aR 82]) (h1 := h) rfl ?_
  refine A_callSN (host := "QuotedBooks") hM rfl rfl (mem_NW 1525 (by decide +kernel) rfl) mi_X11_put ms_X11_put (As := [aR 82, aI (h 81 1), aI v1]) (rest := []) (ct_X11_put 82 60 (h 81 1) v1 h rfl rfl (OK_bind hh)) (by decide) ⟨Nat.zero_le _, Nat.zero_le _⟩ rfl rfl (Nat.le_of_ble_eq_true rfl) (fun r F' h' hq1 => ?_)
  obtain ⟨rfl, rfl, hh⟩ := hq1
  obtain ⟨r1, rfl⟩ : ∃ z, z = h' := ⟨_, rfl⟩
  refine A_blk hM.1 5 (lv1 := [some (aR 81), some (aI v1), some (aI v2), some (aI v3)]) (s1 := [aI v2, aI (r1 81 1), aR 83]) (h1 := r1) rfl ?_
  refine A_callSN (host := "QuotedBooks") hM rfl rfl (mem_NW 1525 (by decide +kernel) rfl) mi_X11_put ms_X11_put (As := [aR 83, aI (r1 81 1), aI v2]) (rest := []) (ct_X11_put 83 60 (r1 81 1) v2 r1 rfl rfl (OK_bind hh)) (by decide) ⟨Nat.zero_le _, Nat.zero_le _⟩ rfl rfl (Nat.le_of_ble_eq_true rfl) (fun r F' h' hq1 => ?_)
  obtain ⟨rfl, rfl, hh⟩ := hq1
  obtain ⟨r2, rfl⟩ : ∃ z, z = h' := ⟨_, rfl⟩
  refine A_blk hM.1 5 (lv1 := [some (aR 81), some (aI v1), some (aI v2), some (aI v3)]) (s1 := [aI v3, aI (r2 81 1), aR 84]) (h1 := r2) rfl ?_
  refine A_callSN (host := "QuotedBooks") hM rfl rfl (mem_NW 1525 (by decide +kernel) rfl) mi_X11_put ms_X11_put (As := [aR 84, aI (r2 81 1), aI v3]) (rest := []) (ct_X11_put 84 60 (r2 81 1) v3 r2 rfl rfl (OK_bind hh)) (by decide) ⟨Nat.zero_le _, Nat.zero_le _⟩ rfl rfl (Nat.le_of_ble_eq_true rfl) (fun r F' h' hq1 => ?_)
  obtain ⟨rfl, rfl, hh⟩ := hq1
  obtain ⟨r3, rfl⟩ : ∃ z, z = h' := ⟨_, rfl⟩
  refine A_blk hM.1 7 (lv1 := [some (aR 81), some (aI v1), some (aI v2), some (aI v3)]) (s1 := [aI 1]) (h1 := setH r3 81 1 ((r3 81 1) + 1)) rfl ?_
  exact A_retz hM.1 rfl rfl rfl (by decide) (hq (1, setH r3 81 1 ((r3 81 1) + 1)) hh)

set_option maxRecDepth 20000 in
set_option maxHeartbeats 4000000 in
theorem c_X3_give {k0 : K0} {G : Gx} {Qp : Option AV → Fx → Hp → Prop} (hM : MB (KM k0 0 0 Qp) G M_X3_give 2) (v1 : Int) (v2 : Int) (v3 : Int) (h : Hp)   {P : (Int × Hp) → Prop} (hq : ∀ z : Int × Hp, P z → Qp (some (aI z.1)) FN z.2) (hh : OK (X3_give v1 v2 v3 h) P) : ATk (KM k0 0 0 Qp) FN 0 0 M_X3_give 0 [some (aR 81), some (aI v1), some (aI v2), some (aI v3)] [] h := by
  unfold X3_give at hh
  refine A_blk hM.1 3 (lv1 := [some (aR 81), some (aI v1), some (aI v2), some (aI v3)]) (s1 := [aI 60, aI (h 81 1)]) (h1 := h) rfl ?_
  refine A_icmp hM.1 rfl rfl (fun hc => ?_) (fun hc => ?_)
  · replace hh := OK_t hh hc
    refine A_blk hM.1 1 (lv1 := [some (aR 81), some (aI v1), some (aI v2), some (aI v3)]) (s1 := [aI 0]) (h1 := h) rfl ?_
    exact A_retz hM.1 rfl rfl rfl (by decide) (hq (0, h) hh)
  · replace hh := OK_f hh hc
    refine A_blk hM.1 2 (lv1 := [some (aR 81), some (aI v1), some (aI v2), some (aI v3)]) (s1 := [aI (h 81 1)]) (h1 := h) rfl ?_
    refine A_ifc hM.1 rfl rfl (fun hc => ?_) (fun hc => ?_)
    · replace hh := OK_t hh hc
      exact c_X3_give_j18 hM v1 v2 v3 h hq hh
    · replace hh := OK_f hh hc
      refine A_blk hM.1 7 (lv1 := [some (aR 81), some (aI v1), some (aI v2), some (aI v3)]) (s1 := [aI ((h 81 1) - 1), aR 84, aI v3]) (h1 := h) rfl ?_
      refine A_callSN (host := "QuotedBooks") hM rfl rfl (mem_NW 1524 (by decide +kernel) rfl) mi_X11_at ms_X11_at (As := [aR 84, aI ((h 81 1) - 1)]) (rest := [aI v3]) (ct_X11_at 84 60 ((h 81 1) - 1) h rfl rfl (OK_bind hh)) (by decide) ⟨Nat.zero_le _, Nat.zero_le _⟩ rfl rfl (Nat.le_of_ble_eq_true rfl) (fun r F' h' hq1 => ?_)
      obtain ⟨rfl, r4, rfl, e9, hh⟩ := hq1
      subst h'
      refine A_icmp hM.1 rfl rfl (fun hc => ?_) (fun hc => ?_)
      · replace hh := OK_t hh hc
        exact c_X3_give_j18 hM v1 v2 v3 h hq hh
      · replace hh := OK_f hh hc
        refine A_blk hM.1 1 (lv1 := [some (aR 81), some (aI v1), some (aI v2), some (aI v3)]) (s1 := [aI 0]) (h1 := h) rfl ?_
        exact A_retz hM.1 rfl rfl rfl (by decide) (hq (0, h) hh)

set_option maxRecDepth 20000 in
set_option maxHeartbeats 4000000 in
theorem ct_X3_give {G : Gx} (v1 : Int) (v2 : Int) (v3 : Int) (h : Hp)   {P : (Int × Hp) → Prop} (hh : OK (X3_give v1 v2 v3 h) P) : CT G yX3_give M_X3_give 2 0 0 FN h [aR 81, aI v1, aI v2, aI v3] (fun r F' h' => F' = FN ∧ ∃ z, r = some (aI z.1) ∧ h' = z.2 ∧ P z) :=
  CT.of (by decide +kernel) rfl (Nat.le_of_ble_eq_true rfl) k_X3_give fun k0 _ _ hM => c_X3_give hM v1 v2 v3 h (fun z hz => ⟨rfl, z, rfl, rfl, hz⟩) hh

theorem mi_X11_gives : MIv yX11_gives M_X11_gives 3 := ⟨⟨(mem_GW 1519 (by decide +kernel) rfl), (mem_GW 123 (by decide +kernel) rfl), by decide +kernel, by decide +kernel, by decide +kernel, by decide⟩, (mem_GW 1517 (by decide +kernel) rfl), (mem_GW 1518 (by decide +kernel) rfl)⟩
set_option maxRecDepth 20000 in
set_option maxHeartbeats 4000000 in
theorem c_X11_gives_j13 {k0 : K0} {G : Gx} {Qp : Option AV → Fx → Hp → Prop} (hM : MB (KM k0 0 0 Qp) G M_X11_gives 3) (v1 : Int) (v2 : Int) (v3 : Int) (h : Hp)   {P : (Int × Hp) → Prop} (hq : ∀ z : Int × Hp, P z → Qp (some (aI z.1)) FN z.2) (hh : OK (X11_gives_j13 v1 v2 v3 h) P) : ATk (KM k0 0 0 Qp) FN 0 0 M_X11_gives 13 [some (aR 0), some (aI v1), some (aI v2), some (aI v3)] [] h := by
  unfold X11_gives_j13 at hh
  refine A_blk hM.1 3 (lv1 := [some (aR 0), some (aI v1), some (aI v2), some (aI v3)]) (s1 := [aI 2000, aI 0, aI v3]) (h1 := h) rfl ?_
  refine A_callS hM rfl rfl (mem_GW 576 (by decide +kernel) rfl) mi_X11_within ms_X11_within (As := [aI v3, aI 0, aI 2000]) (rest := []) (ct_X11_within v3 0 2000 h (OK_bind hh)) (by decide) ⟨Nat.zero_le _, Nat.zero_le _⟩ rfl rfl (Nat.le_of_ble_eq_true rfl) (fun r F' h' hq1 => ?_)
  obtain ⟨rfl, r2, rfl, e9, hh⟩ := hq1
  subst h'
  refine A_ifc hM.1 rfl rfl (fun hc => ?_) (fun hc => ?_)
  · replace hh := OK_t hh hc
    refine A_blk hM.1 1 (lv1 := [some (aR 0), some (aI v1), some (aI v2), some (aI v3)]) (s1 := [aI 0]) (h1 := h) rfl ?_
    exact A_retz hM.1 rfl rfl rfl (by decide) (hq (0, h) hh)
  · replace hh := OK_f hh hc
    refine A_blk hM.1 5 (lv1 := [some (aR 0), some (aI v1), some (aI v2), some (aI v3)]) (s1 := [aI v3, aI v2, aI v1, aR 81]) (h1 := h) rfl ?_
    refine A_callV hM rfl rfl (mem_GW 1520 (by decide +kernel) rfl) mi_X3_give (As := [aI v1, aI v2, aI v3]) (rest := []) (ct_X3_give v1 v2 v3 h (OK_bind hh)) (by decide) ⟨Nat.zero_le _, Nat.zero_le _⟩ rfl rfl (Nat.le_of_ble_eq_true rfl) (by decide) rfl (by decide) rfl (fun r F' h' hq1 => ?_)
    obtain ⟨rfl, r3, rfl, e9, hh⟩ := hq1
    subst h'
    refine A_ifc hM.1 rfl rfl (fun hc => ?_) (fun hc => ?_)
    · replace hh := OK_t hh hc
      refine A_blk hM.1 1 (lv1 := [some (aR 0), some (aI v1), some (aI v2), some (aI v3)]) (s1 := [aI 0]) (h1 := r3.2) rfl ?_
      exact A_retz hM.1 rfl rfl rfl (by decide) (hq (0, r3.2) hh)
    · replace hh := OK_f hh hc
      refine A_blk hM.1 1 (lv1 := [some (aR 0), some (aI v1), some (aI v2), some (aI v3)]) (s1 := [aI 1]) (h1 := r3.2) rfl ?_
      refine A_go hM.1 rfl rfl ?_
      exact A_retz hM.1 rfl rfl rfl (by decide) (hq (1, r3.2) hh)

set_option maxRecDepth 20000 in
set_option maxHeartbeats 4000000 in
theorem c_X11_gives {k0 : K0} {G : Gx} {Qp : Option AV → Fx → Hp → Prop} (hM : MB (KM k0 0 0 Qp) G M_X11_gives 3) (v1 : Int) (v2 : Int) (v3 : Int) (h : Hp)   {P : (Int × Hp) → Prop} (hq : ∀ z : Int × Hp, P z → Qp (some (aI z.1)) FN z.2) (hh : OK (X11_gives v1 v2 v3 h) P) : ATk (KM k0 0 0 Qp) FN 0 0 M_X11_gives 0 [some (aR 0), some (aI v1), some (aI v2), some (aI v3)] [] h := by
  unfold X11_gives at hh
  refine A_blk hM.1 3 (lv1 := [some (aR 0), some (aI v1), some (aI v2), some (aI v3)]) (s1 := [aI v1, aR 3]) (h1 := h) rfl ?_
  refine A_callV hM rfl rfl (mem_GW 986 (by decide +kernel) rfl) mi_X7_isBit (As := [aI v1]) (rest := []) (ct_X7_isBit v1 h (OK_bind hh)) (by decide) ⟨Nat.zero_le _, Nat.zero_le _⟩ rfl rfl (Nat.le_of_ble_eq_true rfl) (by decide) rfl (by decide) rfl (fun r F' h' hq1 => ?_)
  obtain ⟨rfl, r1, rfl, e9, hh⟩ := hq1
  subst h'
  refine A_ifc hM.1 rfl rfl (fun hc => ?_) (fun hc => ?_)
  · replace hh := OK_t hh hc
    refine A_blk hM.1 1 (lv1 := [some (aR 0), some (aI v1), some (aI v2), some (aI v3)]) (s1 := [aI 0]) (h1 := h) rfl ?_
    exact A_retz hM.1 rfl rfl rfl (by decide) (hq (0, h) hh)
  · replace hh := OK_f hh hc
    refine A_blk hM.1 2 (lv1 := [some (aR 0), some (aI v1), some (aI v2), some (aI v3)]) (s1 := [aI (-1), aI v2]) (h1 := h) rfl ?_
    refine A_icmp hM.1 rfl rfl (fun hc => ?_) (fun hc => ?_)
    · replace hh := OK_t hh hc
      exact c_X11_gives_j13 hM v1 v2 v3 h hq hh
    · replace hh := OK_f hh hc
      refine A_blk hM.1 3 (lv1 := [some (aR 0), some (aI v1), some (aI v2), some (aI v3)]) (s1 := [aI v2, aR 3]) (h1 := h) rfl ?_
      refine A_callV hM rfl rfl (mem_GW 632 (by decide +kernel) rfl) mi_X7_isWork (As := [aI v2]) (rest := []) (ct_X7_isWork v2 h (OK_bind hh)) (by decide) ⟨Nat.zero_le _, Nat.zero_le _⟩ rfl rfl (Nat.le_of_ble_eq_true rfl) (by decide) rfl (by decide) rfl (fun r F' h' hq1 => ?_)
      obtain ⟨rfl, r4, rfl, e9, hh⟩ := hq1
      subst h'
      refine A_ifc hM.1 rfl rfl (fun hc => ?_) (fun hc => ?_)
      · replace hh := OK_t hh hc
        refine A_blk hM.1 1 (lv1 := [some (aR 0), some (aI v1), some (aI v2), some (aI v3)]) (s1 := [aI 0]) (h1 := h) rfl ?_
        exact A_retz hM.1 rfl rfl rfl (by decide) (hq (0, h) hh)
      · replace hh := OK_f hh hc
        exact c_X11_gives_j13 hM v1 v2 v3 h hq hh

set_option maxRecDepth 20000 in
set_option maxHeartbeats 4000000 in
theorem ct_X11_gives {G : Gx} (v1 : Int) (v2 : Int) (v3 : Int) (h : Hp)   {P : (Int × Hp) → Prop} (hh : OK (X11_gives v1 v2 v3 h) P) : CT G yX11_gives M_X11_gives 3 0 0 FN h [aR 0, aI v1, aI v2, aI v3] (fun r F' h' => F' = FN ∧ ∃ z, r = some (aI z.1) ∧ h' = z.2 ∧ P z) :=
  CT.of (by decide +kernel) rfl (Nat.le_of_ble_eq_true rfl) k_X11_gives fun k0 _ _ hM => c_X11_gives hM v1 v2 v3 h (fun z hz => ⟨rfl, z, rfl, rfl, hz⟩) hh

theorem mi_X3_workBy : MIv yX3_workBy M_X3_workBy 2 := ⟨⟨(mem_GW 1533 (by decide +kernel) rfl), (mem_GW 134 (by decide +kernel) rfl), by decide +kernel, by decide +kernel, by decide +kernel, by decide⟩, (mem_GW 1531 (by decide +kernel) rfl), (mem_GW 1532 (by decide +kernel) rfl)⟩
set_option maxRecDepth 20000 in
set_option maxHeartbeats 4000000 in
theorem c_X3_workBy_j28 {k0 : K0} {G : Gx} {Qp : Option AV → Fx → Hp → Prop} (hM : MB (KM k0 0 0 Qp) G M_X3_workBy 3) (v1 : Int) (v2 : Int) (v3 : Int) (v4 : Int) (h : Hp)   {P : ((Int × Int) ⊕ (Int)) → Prop} (hin : ∀ y : Int × Int, P (.inl y) → ATk (KM k0 0 0 Qp) FN 0 0 M_X3_workBy 7 [some (aR 81), some (aI v1), some (aI v2), some (aI y.1), some (aI y.2)] [] h) (hout0 : ∀ y : Int, P (.inr y) → ATk (KM k0 0 0 Qp) FN 0 0 M_X3_workBy 30 [none, none, none, some (aI y), none] [] h) (hh : OK (X3_workBy_j28 v1 v2 v3 v4 h) P) : ATk (KM k0 0 0 Qp) FN 0 0 M_X3_workBy 28 [some (aR 81), some (aI v1), some (aI v2), some (aI v3), some (aI v4)] [] h := by
  unfold X3_workBy_j28 at hh
  refine A_blk hM.1 1 (lv1 := [some (aR 81), some (aI v1), some (aI v2), some (aI v3), some (aI (v4 + 1))]) (s1 := []) (h1 := h) rfl ?_
  refine A_go hM.1 rfl rfl ?_
  exact hin (v3, v4 + 1) hh

set_option maxRecDepth 20000 in
set_option maxHeartbeats 4000000 in
theorem c_X3_workBy_l7 {k0 : K0} {G : Gx} {Qp : Option AV → Fx → Hp → Prop} (hM : MB (KM k0 0 0 Qp) G M_X3_workBy 3) (v1 : Int) (v2 : Int) (h : Hp) (x : Int × Int)   {P : ((Int × Int) ⊕ (Int)) → Prop} (hin : ∀ y : Int × Int, P (.inl y) → ATk (KM k0 0 0 Qp) FN 0 0 M_X3_workBy 7 [some (aR 81), some (aI v1), some (aI v2), some (aI y.1), some (aI y.2)] [] h) (hout0 : ∀ y : Int, P (.inr y) → ATk (KM k0 0 0 Qp) FN 0 0 M_X3_workBy 30 [none, none, none, some (aI y), none] [] h) (hh : OK (X3_workBy_l7 v1 v2 h x) P) : ATk (KM k0 0 0 Qp) FN 0 0 M_X3_workBy 7 [some (aR 81), some (aI v1), some (aI v2), some (aI x.1), some (aI x.2)] [] h := by
  unfold X3_workBy_l7 at hh
  refine A_blk hM.1 3 (lv1 := [some (aR 81), some (aI v1), some (aI v2), some (aI x.1), some (aI x.2)]) (s1 := [aI (h 81 1), aI x.2]) (h1 := h) rfl ?_
  refine A_icmp hM.1 rfl rfl (fun hc => ?_) (fun hc => ?_)
  · replace hh := OK_t hh hc
    refine A_mask [false, false, false, true, false] (lv1 := [none, none, none, some (aI x.1), none]) rfl ?_
    exact hout0 x.1 hh
  · replace hh := OK_f hh hc
    refine A_blk hM.1 3 (lv1 := [some (aR 81), some (aI v1), some (aI v2), some (aI x.1), some (aI x.2)]) (s1 := [aI x.2, aR 84]) (h1 := h) rfl ?_
    refine A_callSN (host := "QuotedBooks") hM rfl rfl (mem_NW 1524 (by decide +kernel) rfl) mi_X11_at ms_X11_at (As := [aR 84, aI x.2]) (rest := []) (ct_X11_at 84 60 x.2 h rfl rfl (OK_bind hh)) (by decide) ⟨Nat.zero_le _, Nat.zero_le _⟩ rfl rfl (Nat.le_of_ble_eq_true rfl) (fun r F' h' hq1 => ?_)
    obtain ⟨rfl, r2, rfl, e9, hh⟩ := hq1
    subst h'
    refine A_blk hM.1 1 (lv1 := [some (aR 81), some (aI v1), some (aI v2), some (aI x.1), some (aI x.2)]) (s1 := [aI v2, aI r2]) (h1 := h) rfl ?_
    refine A_icmp hM.1 rfl rfl (fun hc => ?_) (fun hc => ?_)
    · replace hh := OK_t hh hc
      refine A_mask [false, false, false, true, false] (lv1 := [none, none, none, some (aI x.1), none]) rfl ?_
      exact hout0 x.1 hh
    · replace hh := OK_f hh hc
      refine A_blk hM.1 3 (lv1 := [some (aR 81), some (aI v1), some (aI v2), some (aI x.1), some (aI x.2)]) (s1 := [aI x.2, aR 82]) (h1 := h) rfl ?_
      refine A_callSN (host := "QuotedBooks") hM rfl rfl (mem_NW 1524 (by decide +kernel) rfl) mi_X11_at ms_X11_at (As := [aR 82, aI x.2]) (rest := []) (ct_X11_at 82 60 x.2 h rfl rfl (OK_bind hh)) (by decide) ⟨Nat.zero_le _, Nat.zero_le _⟩ rfl rfl (Nat.le_of_ble_eq_true rfl) (fun r F' h' hq1 => ?_)
      obtain ⟨rfl, r3, rfl, e9, hh⟩ := hq1
      subst h'
      refine A_blk hM.1 1 (lv1 := [some (aR 81), some (aI v1), some (aI v2), some (aI x.1), some (aI x.2)]) (s1 := [aI v1, aI r3]) (h1 := h) rfl ?_
      refine A_icmp hM.1 rfl rfl (fun hc => ?_) (fun hc => ?_)
      · replace hh := OK_t hh hc
        exact c_X3_workBy_j28 hM v1 v2 x.1 x.2 h hin hout0 hh
      · replace hh := OK_f hh hc
        refine A_blk hM.1 3 (lv1 := [some (aR 81), some (aI v1), some (aI v2), some (aI x.1), some (aI x.2)]) (s1 := [aI x.2, aR 83]) (h1 := h) rfl ?_
        refine A_callSN (host := "QuotedBooks") hM rfl rfl (mem_NW 1524 (by decide +kernel) rfl) mi_X11_at ms_X11_at (As := [aR 83, aI x.2]) (rest := []) (ct_X11_at 83 60 x.2 h rfl rfl (OK_bind hh)) (by decide) ⟨Nat.zero_le _, Nat.zero_le _⟩ rfl rfl (Nat.le_of_ble_eq_true rfl) (fun r F' h' hq1 => ?_)
        obtain ⟨rfl, r4, rfl, e9, hh⟩ := hq1
        subst h'
        refine A_blk hM.1 1 (lv1 := [some (aR 81), some (aI v1), some (aI v2), some (aI r4), some (aI x.2)]) (s1 := []) (h1 := h) rfl ?_
        exact c_X3_workBy_j28 hM v1 v2 r4 x.2 h hin hout0 hh

set_option maxRecDepth 20000 in
set_option maxHeartbeats 4000000 in
theorem c_X3_workBy {k0 : K0} {G : Gx} {Qp : Option AV → Fx → Hp → Prop} (hM : MB (KM k0 0 0 Qp) G M_X3_workBy 3) (v1 : Int) (v2 : Int) (h : Hp)   {P : Int → Prop} (hq : ∀ z : Int, P z → Qp (some (aI z)) FN h) (hh : OK (X3_workBy v1 v2 h) P) : ATk (KM k0 0 0 Qp) FN 0 0 M_X3_workBy 0 [some (aR 81), some (aI v1), some (aI v2), none, none] [] h := by
  unfold X3_workBy at hh
  refine A_blk hM.1 3 (lv1 := [some (aR 81), some (aI v1), some (aI v2), none, none]) (s1 := [aI v1, aR 3]) (h1 := h) rfl ?_
  refine A_callV hM rfl rfl (mem_GW 1534 (by decide +kernel) rfl) mi_X7_bitWork (As := [aI v1]) (rest := []) (ct_X7_bitWork v1 h (OK_bind hh)) (by decide) ⟨Nat.zero_le _, Nat.zero_le _⟩ rfl rfl (Nat.le_of_ble_eq_true rfl) (by decide) rfl (by decide) rfl (fun r F' h' hq1 => ?_)
  obtain ⟨rfl, r1, rfl, e9, hh⟩ := hq1
  subst h'
  refine A_blk hM.1 3 (lv1 := [some (aR 81), some (aI v1), some (aI v2), some (aI r1), some (aI 0)]) (s1 := []) (h1 := h) rfl ?_
  refine iter_ok (s := (r1, 0)) (Gp := fun z => ATk (KM k0 0 0 Qp) FN 0 0 M_X3_workBy 7 [some (aR 81), some (aI v1), some (aI v2), some (aI z.1), some (aI z.2)] [] h) (E := fun z => ATk (KM k0 0 0 Qp) FN 0 0 M_X3_workBy 30 [none, none, none, some (aI z), none] [] h) (fun z P1 g1 g2 g3 => c_X3_workBy_l7 hM v1 v2 h z g2 g3 g1) (OK_bind hh) (fun x5 hh => ?_)
  refine A_blk hM.1 1 (lv1 := [none, none, none, some (aI x5), none]) (s1 := [aI x5]) (h1 := h) rfl ?_
  exact A_reti hM.1 rfl rfl rfl (hq x5 hh)

set_option maxRecDepth 20000 in
set_option maxHeartbeats 4000000 in
theorem ct_X3_workBy {G : Gx} (v1 : Int) (v2 : Int) (h : Hp)   {P : Int → Prop} (hh : OK (X3_workBy v1 v2 h) P) : CT G yX3_workBy M_X3_workBy 3 0 0 FN h [aR 81, aI v1, aI v2] (fun r F' h' => F' = FN ∧ ∃ z, r = some (aI z) ∧ h' = h ∧ P z) :=
  CT.of (by decide +kernel) rfl (Nat.le_of_ble_eq_true rfl) k_X3_workBy fun k0 _ _ hM => c_X3_workBy hM v1 v2 h (fun z hz => ⟨rfl, z, rfl, rfl, hz⟩) hh

theorem mi_X11_given : MIv yX11_given M_X11_given 2 := ⟨⟨(mem_GW 1529 (by decide +kernel) rfl), (mem_GW 123 (by decide +kernel) rfl), by decide +kernel, by decide +kernel, by decide +kernel, by decide⟩, (mem_GW 1527 (by decide +kernel) rfl), (mem_GW 1528 (by decide +kernel) rfl)⟩
set_option maxRecDepth 20000 in
set_option maxHeartbeats 4000000 in
theorem c_X11_given {k0 : K0} {G : Gx} {Qp : Option AV → Fx → Hp → Prop} (hM : MB (KM k0 0 0 Qp) G M_X11_given 4) (v1 : Int) (v2 : Int) (h : Hp)   {P : Int → Prop} (hq : ∀ z : Int, P z → Qp (some (aI z)) FN h) (hh : OK (X11_given v1 v2 h) P) : ATk (KM k0 0 0 Qp) FN 0 0 M_X11_given 0 [some (aR 0), some (aI v1), some (aI v2)] [] h := by
  unfold X11_given at hh
  refine A_blk hM.1 3 (lv1 := [some (aR 0), some (aI v1), some (aI v2)]) (s1 := [aI v1, aR 3]) (h1 := h) rfl ?_
  refine A_callV hM rfl rfl (mem_GW 986 (by decide +kernel) rfl) mi_X7_isBit (As := [aI v1]) (rest := []) (ct_X7_isBit v1 h (OK_bind hh)) (by decide) ⟨Nat.zero_le _, Nat.zero_le _⟩ rfl rfl (Nat.le_of_ble_eq_true rfl) (by decide) rfl (by decide) rfl (fun r F' h' hq1 => ?_)
  obtain ⟨rfl, r1, rfl, e9, hh⟩ := hq1
  subst h'
  refine A_ifc hM.1 rfl rfl (fun hc => ?_) (fun hc => ?_)
  · replace hh := OK_t hh hc
    refine A_blk hM.1 1 (lv1 := [some (aR 0), some (aI v1), some (aI v2)]) (s1 := [aI (-2)]) (h1 := h) rfl ?_
    exact A_reti hM.1 rfl rfl rfl (hq (-2) hh)
  · replace hh := OK_f hh hc
    refine A_blk hM.1 3 (lv1 := [some (aR 0), some (aI v1), some (aI v2)]) (s1 := [aI 2000, aI 0, aI v2]) (h1 := h) rfl ?_
    refine A_callS hM rfl rfl (mem_GW 576 (by decide +kernel) rfl) mi_X11_within ms_X11_within (As := [aI v2, aI 0, aI 2000]) (rest := []) (ct_X11_within v2 0 2000 h (OK_bind hh)) (by decide) ⟨Nat.zero_le _, Nat.zero_le _⟩ rfl rfl (Nat.le_of_ble_eq_true rfl) (fun r F' h' hq1 => ?_)
    obtain ⟨rfl, r2, rfl, e9, hh⟩ := hq1
    subst h'
    refine A_ifc hM.1 rfl rfl (fun hc => ?_) (fun hc => ?_)
    · replace hh := OK_t hh hc
      refine A_blk hM.1 1 (lv1 := [some (aR 0), some (aI v1), some (aI v2)]) (s1 := [aI (-2)]) (h1 := h) rfl ?_
      exact A_reti hM.1 rfl rfl rfl (hq (-2) hh)
    · replace hh := OK_f hh hc
      refine A_blk hM.1 4 (lv1 := [some (aR 0), some (aI v1), some (aI v2)]) (s1 := [aI v2, aI v1, aR 81]) (h1 := h) rfl ?_
      refine A_callV hM rfl rfl (mem_GW 1530 (by decide +kernel) rfl) mi_X3_workBy (As := [aI v1, aI v2]) (rest := []) (ct_X3_workBy v1 v2 h (OK_bind hh)) (by decide) ⟨Nat.zero_le _, Nat.zero_le _⟩ rfl rfl (Nat.le_of_ble_eq_true rfl) (by decide) rfl (by decide) rfl (fun r F' h' hq1 => ?_)
      obtain ⟨rfl, r3, rfl, e9, hh⟩ := hq1
      subst h'
      refine A_go hM.1 rfl rfl ?_
      exact A_reti hM.1 rfl rfl rfl (hq r3 hh)

set_option maxRecDepth 20000 in
set_option maxHeartbeats 4000000 in
theorem ct_X11_given {G : Gx} (v1 : Int) (v2 : Int) (h : Hp)   {P : Int → Prop} (hh : OK (X11_given v1 v2 h) P) : CT G yX11_given M_X11_given 4 0 0 FN h [aR 0, aI v1, aI v2] (fun r F' h' => F' = FN ∧ ∃ z, r = some (aI z) ∧ h' = h ∧ P z) :=
  CT.of (by decide +kernel) rfl (Nat.le_of_ble_eq_true rfl) k_X11_given fun k0 _ _ hM => c_X11_given hM v1 v2 h (fun z hz => ⟨rfl, z, rfl, rfl, hz⟩) hh

theorem mi_X7_booksOf : MIv yX7_booksOf M_X7_booksOf 1 := ⟨⟨(mem_GW 1556 (by decide +kernel) rfl), (mem_GW 125 (by decide +kernel) rfl), by decide +kernel, by decide +kernel, by decide +kernel, by decide⟩, (mem_GW 1554 (by decide +kernel) rfl), (mem_GW 1555 (by decide +kernel) rfl)⟩
set_option maxRecDepth 20000 in
set_option maxHeartbeats 4000000 in
theorem c_X7_booksOf {k0 : K0} {G : Gx} {Qp : Option AV → Fx → Hp → Prop} (hM : MB (KM k0 0 0 Qp) G M_X7_booksOf 2) (v1 : Int) (h : Hp)   {P : Int → Prop} (hq : ∀ z : Int, P z → Qp (some (aI z)) FN h) (hh : OK (X7_booksOf v1 h) P) : ATk (KM k0 0 0 Qp) FN 0 0 M_X7_booksOf 0 [some (aR 3), some (aI v1)] [] h := by
  unfold X7_booksOf at hh
  refine A_blk hM.1 3 (lv1 := [some (aR 3), some (aI v1)]) (s1 := [aI v1, aR 7]) (h1 := h) rfl ?_
  refine A_callSN (host := "QuotedBooks") hM rfl rfl (mem_NW 641 (by decide +kernel) rfl) mi_X11_at ms_X11_at (As := [aR 7, aI v1]) (rest := []) (ct_X11_at 7 8 v1 h rfl rfl (OK_bind hh)) (by decide) ⟨Nat.zero_le _, Nat.zero_le _⟩ rfl rfl (Nat.le_of_ble_eq_true rfl) (fun r F' h' hq1 => ?_)
  obtain ⟨rfl, r1, rfl, e9, hh⟩ := hq1
  subst h'
  exact A_reti hM.1 rfl rfl rfl (hq r1 hh)

set_option maxRecDepth 20000 in
set_option maxHeartbeats 4000000 in
theorem ct_X7_booksOf {G : Gx} (v1 : Int) (h : Hp)   {P : Int → Prop} (hh : OK (X7_booksOf v1 h) P) : CT G yX7_booksOf M_X7_booksOf 2 0 0 FN h [aR 3, aI v1] (fun r F' h' => F' = FN ∧ ∃ z, r = some (aI z) ∧ h' = h ∧ P z) :=
  CT.of (by decide +kernel) rfl (Nat.le_of_ble_eq_true rfl) k_X7_booksOf fun k0 _ _ hM => c_X7_booksOf hM v1 h (fun z hz => ⟨rfl, z, rfl, rfl, hz⟩) hh

theorem mi_X3_isWrong : MIv yX3_isWrong M_X3_isWrong 2 := ⟨⟨(mem_GW 1548 (by decide +kernel) rfl), (mem_GW 134 (by decide +kernel) rfl), by decide +kernel, by decide +kernel, by decide +kernel, by decide⟩, (mem_GW 1547 (by decide +kernel) rfl), (mem_GW 54 (by decide +kernel) rfl)⟩
set_option maxRecDepth 20000 in
set_option maxHeartbeats 4000000 in
theorem c_X3_isWrong_j24 {k0 : K0} {G : Gx} {Qp : Option AV → Fx → Hp → Prop} (hM : MB (KM k0 0 0 Qp) G M_X3_isWrong 3) (h : Hp)   {P : Int → Prop} (hq : ∀ z : Int, P z → Qp (some (aI z)) FN h) (hh : OK (X3_isWrong_j24 h) P) : ATk (KM k0 0 0 Qp) FN 0 0 M_X3_isWrong 24 [none, none, none] [] h := by
  unfold X3_isWrong_j24 at hh
  refine A_blk hM.1 1 (lv1 := [none, none, none]) (s1 := [aI 1]) (h1 := h) rfl ?_
  refine A_go hM.1 rfl rfl ?_
  exact A_retz hM.1 rfl rfl rfl (by decide) (hq 1 hh)

set_option maxRecDepth 20000 in
set_option maxHeartbeats 4000000 in
theorem c_X3_isWrong {k0 : K0} {G : Gx} {Qp : Option AV → Fx → Hp → Prop} (hM : MB (KM k0 0 0 Qp) G M_X3_isWrong 3) (v1 : Int) (v2 : Int) (h : Hp)   {P : Int → Prop} (hq : ∀ z : Int, P z → Qp (some (aI z)) FN h) (hh : OK (X3_isWrong v1 v2 h) P) : ATk (KM k0 0 0 Qp) FN 0 0 M_X3_isWrong 0 [some (aR 81), some (aI v1), some (aI v2)] [] h := by
  unfold X3_isWrong at hh
  refine A_blk hM.1 5 (lv1 := [some (aR 81), some (aI v1), some (aI v2)]) (s1 := [aI v2, aR 3, aR 3]) (h1 := h) rfl ?_
  refine A_callV hM rfl rfl (mem_GW 1549 (by decide +kernel) rfl) mi_X7_authorOf (As := [aI v2]) (rest := [aR 3]) (ct_X7_authorOf v2 h (OK_bind hh)) (by decide) ⟨Nat.zero_le _, Nat.zero_le _⟩ rfl rfl (Nat.le_of_ble_eq_true rfl) (by decide) rfl (by decide) rfl (fun r F' h' hq1 => ?_)
  obtain ⟨rfl, r1, rfl, e9, hh⟩ := hq1
  subst h'
  refine A_callV hM rfl rfl (mem_GW 1550 (by decide +kernel) rfl) mi_X7_authorYear (As := [aI r1]) (rest := []) (ct_X7_authorYear r1 h (OK_bind hh)) (by decide) ⟨Nat.zero_le _, Nat.zero_le _⟩ rfl rfl (Nat.le_of_ble_eq_true rfl) (by decide) rfl (by decide) rfl (fun r F' h' hq1 => ?_)
  obtain ⟨rfl, r2, rfl, e9, hh⟩ := hq1
  subst h'
  refine A_blk hM.1 5 (lv1 := [some (aR 81), some (aI v1), some (aI v2)]) (s1 := [aI v1, aR 3, aR 3, aI r2]) (h1 := h) rfl ?_
  refine A_callV hM rfl rfl (mem_GW 1551 (by decide +kernel) rfl) mi_X7_bitWriter (As := [aI v1]) (rest := [aR 3, aI r2]) (ct_X7_bitWriter v1 h (OK_bind hh)) (by decide) ⟨Nat.zero_le _, Nat.zero_le _⟩ rfl rfl (Nat.le_of_ble_eq_true rfl) (by decide) rfl (by decide) rfl (fun r F' h' hq1 => ?_)
  obtain ⟨rfl, r3, rfl, e9, hh⟩ := hq1
  subst h'
  refine A_callV hM rfl rfl (mem_GW 1552 (by decide +kernel) rfl) mi_X7_writerYear (As := [aI r3]) (rest := [aI r2]) (ct_X7_writerYear r3 h (OK_bind hh)) (by decide) ⟨Nat.zero_le _, Nat.zero_le _⟩ rfl rfl (Nat.le_of_ble_eq_true rfl) (by decide) rfl (by decide) rfl (fun r F' h' hq1 => ?_)
  obtain ⟨rfl, r4, rfl, e9, hh⟩ := hq1
  subst h'
  refine A_icmp hM.1 rfl rfl (fun hc => ?_) (fun hc => ?_)
  · replace hh := OK_t hh hc
    refine A_mask [false, false, false] (lv1 := [none, none, none]) rfl ?_
    exact c_X3_isWrong_j24 hM h hq hh
  · replace hh := OK_f hh hc
    refine A_blk hM.1 3 (lv1 := [some (aR 81), some (aI v1), some (aI v2)]) (s1 := [aI v2, aR 3]) (h1 := h) rfl ?_
    refine A_callV hM rfl rfl (mem_GW 1553 (by decide +kernel) rfl) mi_X7_booksOf (As := [aI v2]) (rest := []) (ct_X7_booksOf v2 h (OK_bind hh)) (by decide) ⟨Nat.zero_le _, Nat.zero_le _⟩ rfl rfl (Nat.le_of_ble_eq_true rfl) (by decide) rfl (by decide) rfl (fun r F' h' hq1 => ?_)
    obtain ⟨rfl, r5, rfl, e9, hh⟩ := hq1
    subst h'
    refine A_blk hM.1 3 (lv1 := [some (aR 81), some (aI v1), some (aI v2)]) (s1 := [aI v1, aR 3, aI r5]) (h1 := h) rfl ?_
    refine A_callV hM rfl rfl (mem_GW 1557 (by decide +kernel) rfl) mi_X7_bitBook (As := [aI v1]) (rest := [aI r5]) (ct_X7_bitBook v1 h (OK_bind hh)) (by decide) ⟨Nat.zero_le _, Nat.zero_le _⟩ rfl rfl (Nat.le_of_ble_eq_true rfl) (by decide) rfl (by decide) rfl (fun r F' h' hq1 => ?_)
    obtain ⟨rfl, r6, rfl, e9, hh⟩ := hq1
    subst h'
    refine A_icmp hM.1 rfl rfl (fun hc => ?_) (fun hc => ?_)
    · replace hh := OK_t hh hc
      refine A_blk hM.1 1 (lv1 := [some (aR 81), some (aI v1), some (aI v2)]) (s1 := [aI 0]) (h1 := h) rfl ?_
      exact A_retz hM.1 rfl rfl rfl (by decide) (hq 0 hh)
    · replace hh := OK_f hh hc
      refine A_mask [false, false, false] (lv1 := [none, none, none]) rfl ?_
      exact c_X3_isWrong_j24 hM h hq hh

set_option maxRecDepth 20000 in
set_option maxHeartbeats 4000000 in
theorem ct_X3_isWrong {G : Gx} (v1 : Int) (v2 : Int) (h : Hp)   {P : Int → Prop} (hh : OK (X3_isWrong v1 v2 h) P) : CT G yX3_isWrong M_X3_isWrong 3 0 0 FN h [aR 81, aI v1, aI v2] (fun r F' h' => F' = FN ∧ ∃ z, r = some (aI z) ∧ h' = h ∧ P z) :=
  CT.of (by decide +kernel) rfl (Nat.le_of_ble_eq_true rfl) k_X3_isWrong fun k0 _ _ hM => c_X3_isWrong hM v1 v2 h (fun z hz => ⟨rfl, z, rfl, rfl, hz⟩) hh

theorem mi_X3_wronglyBy : MIv yX3_wronglyBy M_X3_wronglyBy 1 := ⟨⟨(mem_GW 1542 (by decide +kernel) rfl), (mem_GW 134 (by decide +kernel) rfl), by decide +kernel, by decide +kernel, by decide +kernel, by decide⟩, (mem_GW 1540 (by decide +kernel) rfl), (mem_GW 1541 (by decide +kernel) rfl)⟩
set_option maxRecDepth 20000 in
set_option maxHeartbeats 4000000 in
theorem c_X3_wronglyBy_j28 {k0 : K0} {G : Gx} {Qp : Option AV → Fx → Hp → Prop} (hM : MB (KM k0 0 0 Qp) G M_X3_wronglyBy 4) (v1 : Int) (v2 : Int) (v4 : Int) (h : Hp)   {P : ((Int × Int) ⊕ (Int)) → Prop} (hin : ∀ y : Int × Int, P (.inl y) → ATk (KM k0 0 0 Qp) FN 0 0 M_X3_wronglyBy 4 [some (aR 81), some (aI v1), some (aL y.1), none, some (aI y.2), none] [] h) (hout0 : ∀ y : Int, P (.inr y) → ATk (KM k0 0 0 Qp) FN 0 0 M_X3_wronglyBy 30 [none, none, some (aL y), none, none, none] [] h) (hh : OK (X3_wronglyBy_j28 v1 v2 v4 h) P) : ATk (KM k0 0 0 Qp) FN 0 0 M_X3_wronglyBy 28 [some (aR 81), some (aI v1), some (aL v2), none, some (aI v4), none] [] h := by
  unfold X3_wronglyBy_j28 at hh
  refine A_blk hM.1 1 (lv1 := [some (aR 81), some (aI v1), some (aL v2), none, some (aI (v4 + 1)), none]) (s1 := []) (h1 := h) rfl ?_
  refine A_go hM.1 rfl rfl ?_
  exact hin (v2, v4 + 1) hh

set_option maxRecDepth 20000 in
set_option maxHeartbeats 4000000 in
theorem c_X3_wronglyBy_l4 {k0 : K0} {G : Gx} {Qp : Option AV → Fx → Hp → Prop} (hM : MB (KM k0 0 0 Qp) G M_X3_wronglyBy 4) (v1 : Int) (h : Hp) (x : Int × Int)   {P : ((Int × Int) ⊕ (Int)) → Prop} (hin : ∀ y : Int × Int, P (.inl y) → ATk (KM k0 0 0 Qp) FN 0 0 M_X3_wronglyBy 4 [some (aR 81), some (aI v1), some (aL y.1), none, some (aI y.2), none] [] h) (hout0 : ∀ y : Int, P (.inr y) → ATk (KM k0 0 0 Qp) FN 0 0 M_X3_wronglyBy 30 [none, none, some (aL y), none, none, none] [] h) (hh : OK (X3_wronglyBy_l4 v1 h x) P) : ATk (KM k0 0 0 Qp) FN 0 0 M_X3_wronglyBy 4 [some (aR 81), some (aI v1), some (aL x.1), none, some (aI x.2), none] [] h := by
  unfold X3_wronglyBy_l4 at hh
  refine A_blk hM.1 3 (lv1 := [some (aR 81), some (aI v1), some (aL x.1), none, some (aI x.2), none]) (s1 := [aR 3, aI x.2]) (h1 := h) rfl ?_
  refine A_callV hM rfl rfl (mem_GW 1543 (by decide +kernel) rfl) mi_X7_bits (As := []) (rest := [aI x.2]) (ct_X7_bits h (OK_bind hh)) (by decide) ⟨Nat.zero_le _, Nat.zero_le _⟩ rfl rfl (Nat.le_of_ble_eq_true rfl) (by decide) rfl (by decide) rfl (fun r F' h' hq1 => ?_)
  obtain ⟨rfl, r1, rfl, e9, hh⟩ := hq1
  subst h'
  refine A_icmp hM.1 rfl rfl (fun hc => ?_) (fun hc => ?_)
  · replace hh := OK_t hh hc
    refine A_mask [false, false, true, true, false, true] (lv1 := [none, none, some (aL x.1), none, none, none]) rfl ?_
    exact hout0 x.1 hh
  · replace hh := OK_f hh hc
    refine A_blk hM.1 3 (lv1 := [some (aR 81), some (aI v1), some (aL x.1), none, some (aI x.2), none]) (s1 := [aI v1, aI x.2, aR 81]) (h1 := h) rfl ?_
    refine A_callV hM rfl rfl (mem_GW 1544 (by decide +kernel) rfl) mi_X3_workBy (As := [aI x.2, aI v1]) (rest := []) (ct_X3_workBy x.2 v1 h (OK_bind hh)) (by decide) ⟨Nat.zero_le _, Nat.zero_le _⟩ rfl rfl (Nat.le_of_ble_eq_true rfl) (by decide) rfl (by decide) rfl (fun r F' h' hq1 => ?_)
    obtain ⟨rfl, r2, rfl, e9, hh⟩ := hq1
    subst h'
    refine A_blk hM.1 3 (lv1 := [some (aR 81), some (aI v1), some (aL x.1), none, some (aI x.2), some (aI r2)]) (s1 := [aI (-1), aI r2]) (h1 := h) rfl ?_
    refine A_icmp hM.1 rfl rfl (fun hc => ?_) (fun hc => ?_)
    · replace hh := OK_t hh hc
      refine A_mask [true, true, true, true, true, false] (lv1 := [some (aR 81), some (aI v1), some (aL x.1), none, some (aI x.2), none]) rfl ?_
      exact c_X3_wronglyBy_j28 hM v1 x.1 x.2 h hin hout0 hh
    · replace hh := OK_f hh hc
      refine A_blk hM.1 3 (lv1 := [some (aR 81), some (aI v1), some (aL x.1), none, some (aI x.2), some (aI r2)]) (s1 := [aI r2, aI x.2, aR 81]) (h1 := h) rfl ?_
      refine A_callV hM rfl rfl (mem_GW 1545 (by decide +kernel) rfl) mi_X3_isWrong (As := [aI x.2, aI r2]) (rest := []) (ct_X3_isWrong x.2 r2 h (OK_bind hh)) (by decide) ⟨Nat.zero_le _, Nat.zero_le _⟩ rfl rfl (Nat.le_of_ble_eq_true rfl) (by decide) rfl (by decide) rfl (fun r F' h' hq1 => ?_)
      obtain ⟨rfl, r3, rfl, e9, hh⟩ := hq1
      subst h'
      refine A_ifc hM.1 rfl rfl (fun hc => ?_) (fun hc => ?_)
      · replace hh := OK_t hh hc
        refine A_mask [true, true, true, true, true, false] (lv1 := [some (aR 81), some (aI v1), some (aL x.1), none, some (aI x.2), none]) rfl ?_
        exact c_X3_wronglyBy_j28 hM v1 x.1 x.2 h hin hout0 hh
      · replace hh := OK_f hh hc
        refine A_blk hM.1 6 (lv1 := [some (aR 81), some (aI v1), some (aL (or64 x.1 (shl64 1 x.2))), none, some (aI x.2), some (aI r2)]) (s1 := []) (h1 := h) rfl ?_
        refine A_mask [true, true, true, true, true, false] (lv1 := [some (aR 81), some (aI v1), some (aL (or64 x.1 (shl64 1 x.2))), none, some (aI x.2), none]) rfl ?_
        exact c_X3_wronglyBy_j28 hM v1 (or64 x.1 (shl64 1 x.2)) x.2 h hin hout0 hh

set_option maxRecDepth 20000 in
set_option maxHeartbeats 4000000 in
theorem c_X3_wronglyBy {k0 : K0} {G : Gx} {Qp : Option AV → Fx → Hp → Prop} (hM : MB (KM k0 0 0 Qp) G M_X3_wronglyBy 4) (v1 : Int) (h : Hp)   {P : Int → Prop} (hq : ∀ z : Int, P z → Qp (some (aL z)) FN h) (hh : OK (X3_wronglyBy v1 h) P) : ATk (KM k0 0 0 Qp) FN 0 0 M_X3_wronglyBy 0 [some (aR 81), some (aI v1), none, none, none, none] [] h := by
  unfold X3_wronglyBy at hh
  refine A_blk hM.1 4 (lv1 := [some (aR 81), some (aI v1), some (aL 0), none, some (aI 0), none]) (s1 := []) (h1 := h) rfl ?_
  refine iter_ok (s := (0, 0)) (Gp := fun z => ATk (KM k0 0 0 Qp) FN 0 0 M_X3_wronglyBy 4 [some (aR 81), some (aI v1), some (aL z.1), none, some (aI z.2), none] [] h) (E := fun z => ATk (KM k0 0 0 Qp) FN 0 0 M_X3_wronglyBy 30 [none, none, some (aL z), none, none, none] [] h) (fun z P1 g1 g2 g3 => c_X3_wronglyBy_l4 hM v1 h z g2 g3 g1) (OK_bind hh) (fun x4 hh => ?_)
  refine A_blk hM.1 1 (lv1 := [none, none, some (aL x4), none, none, none]) (s1 := [aL x4]) (h1 := h) rfl ?_
  exact A_retl hM.1 rfl rfl rfl (hq x4 hh)

set_option maxRecDepth 20000 in
set_option maxHeartbeats 4000000 in
theorem ct_X3_wronglyBy {G : Gx} (v1 : Int) (h : Hp)   {P : Int → Prop} (hh : OK (X3_wronglyBy v1 h) P) : CT G yX3_wronglyBy M_X3_wronglyBy 4 0 0 FN h [aR 81, aI v1] (fun r F' h' => F' = FN ∧ ∃ z, r = some (aL z) ∧ h' = h ∧ P z) :=
  CT.of (by decide +kernel) rfl (Nat.le_of_ble_eq_true rfl) k_X3_wronglyBy fun k0 _ _ hM => c_X3_wronglyBy hM v1 h (fun z hz => ⟨rfl, z, rfl, rfl, hz⟩) hh

theorem mi_X11_wrong : MIv yX11_wrong M_X11_wrong 1 := ⟨⟨(mem_GW 1538 (by decide +kernel) rfl), (mem_GW 123 (by decide +kernel) rfl), by decide +kernel, by decide +kernel, by decide +kernel, by decide⟩, (mem_GW 1536 (by decide +kernel) rfl), (mem_GW 1537 (by decide +kernel) rfl)⟩
set_option maxRecDepth 20000 in
set_option maxHeartbeats 4000000 in
theorem c_X11_wrong {k0 : K0} {G : Gx} {Qp : Option AV → Fx → Hp → Prop} (hM : MB (KM k0 0 0 Qp) G M_X11_wrong 5) (v1 : Int) (h : Hp)   {P : Int → Prop} (hq : ∀ z : Int, P z → Qp (some (aL z)) FN h) (hh : OK (X11_wrong v1 h) P) : ATk (KM k0 0 0 Qp) FN 0 0 M_X11_wrong 0 [some (aR 0), some (aI v1)] [] h := by
  unfold X11_wrong at hh
  refine A_blk hM.1 3 (lv1 := [some (aR 0), some (aI v1)]) (s1 := [aI 2000, aI 0, aI v1]) (h1 := h) rfl ?_
  refine A_callS hM rfl rfl (mem_GW 576 (by decide +kernel) rfl) mi_X11_within ms_X11_within (As := [aI v1, aI 0, aI 2000]) (rest := []) (ct_X11_within v1 0 2000 h (OK_bind hh)) (by decide) ⟨Nat.zero_le _, Nat.zero_le _⟩ rfl rfl (Nat.le_of_ble_eq_true rfl) (fun r F' h' hq1 => ?_)
  obtain ⟨rfl, r1, rfl, e9, hh⟩ := hq1
  subst h'
  refine A_ifc hM.1 rfl rfl (fun hc => ?_) (fun hc => ?_)
  · replace hh := OK_t hh hc
    refine A_blk hM.1 1 (lv1 := [some (aR 0), some (aI v1)]) (s1 := [aL (-1)]) (h1 := h) rfl ?_
    exact A_retl hM.1 rfl rfl rfl (hq (-1) hh)
  · replace hh := OK_f hh hc
    refine A_blk hM.1 3 (lv1 := [some (aR 0), some (aI v1)]) (s1 := [aI v1, aR 81]) (h1 := h) rfl ?_
    refine A_callV hM rfl rfl (mem_GW 1539 (by decide +kernel) rfl) mi_X3_wronglyBy (As := [aI v1]) (rest := []) (ct_X3_wronglyBy v1 h (OK_bind hh)) (by decide) ⟨Nat.zero_le _, Nat.zero_le _⟩ rfl rfl (Nat.le_of_ble_eq_true rfl) (by decide) rfl (by decide) rfl (fun r F' h' hq1 => ?_)
    obtain ⟨rfl, r2, rfl, e9, hh⟩ := hq1
    subst h'
    refine A_go hM.1 rfl rfl ?_
    exact A_retl hM.1 rfl rfl rfl (hq r2 hh)

set_option maxRecDepth 20000 in
set_option maxHeartbeats 4000000 in
theorem ct_X11_wrong {G : Gx} (v1 : Int) (h : Hp)   {P : Int → Prop} (hh : OK (X11_wrong v1 h) P) : CT G yX11_wrong M_X11_wrong 5 0 0 FN h [aR 0, aI v1] (fun r F' h' => F' = FN ∧ ∃ z, r = some (aL z) ∧ h' = h ∧ P z) :=
  CT.of (by decide +kernel) rfl (Nat.le_of_ble_eq_true rfl) k_X11_wrong fun k0 _ _ hM => c_X11_wrong hM v1 h (fun z hz => ⟨rfl, z, rfl, rfl, hz⟩) hh

theorem mi_X5_pointsWithout : MIv yX5_pointsWithout M_X5_pointsWithout 1 := ⟨⟨(mem_GW 1565 (by decide +kernel) rfl), (mem_GW 132 (by decide +kernel) rfl), by decide +kernel, by decide +kernel, by decide +kernel, by decide⟩, (mem_GW 1563 (by decide +kernel) rfl), (mem_GW 1564 (by decide +kernel) rfl)⟩
set_option maxRecDepth 20000 in
set_option maxHeartbeats 4000000 in
theorem c_X5_pointsWithout_l17 {k0 : K0} {G : Gx} {Qp : Option AV → Fx → Hp → Prop} (hM : MB (KM k0 0 0 Qp) G M_X5_pointsWithout 3) (v2 : Int) (h : Hp) (x : Int × Int)   {P : ((Int × Int) ⊕ (Int)) → Prop} (hin : ∀ y : Int × Int, P (.inl y) → ATk (KM k0 0 0 Qp) FN 0 0 M_X5_pointsWithout 17 [some (aR 66), none, some (aI v2), some (aI y.1), some (aI y.2)] [] h) (hout0 : ∀ y : Int, P (.inr y) → ATk (KM k0 0 0 Qp) FN 0 0 M_X5_pointsWithout 33 [none, none, none, some (aI y), none] [] h) (hh : OK (X5_pointsWithout_l17 v2 h x) P) : ATk (KM k0 0 0 Qp) FN 0 0 M_X5_pointsWithout 17 [some (aR 66), none, some (aI v2), some (aI x.1), some (aI x.2)] [] h := by
  unfold X5_pointsWithout_l17 at hh
  refine A_blk hM.1 3 (lv1 := [some (aR 66), none, some (aI v2), some (aI x.1), some (aI x.2)]) (s1 := [aI (h 66 5), aI x.2]) (h1 := h) rfl ?_
  refine A_icmp hM.1 rfl rfl (fun hc => ?_) (fun hc => ?_)
  · replace hh := OK_t hh hc
    refine A_mask [false, true, false, true, false] (lv1 := [none, none, none, some (aI x.1), none]) rfl ?_
    exact hout0 x.1 hh
  · replace hh := OK_f hh hc
    refine A_blk hM.1 7 (lv1 := [some (aR 66), none, some (aI v2), some (aI x.1), some (aI x.2)]) (s1 := [aI x.2, aI (-1), aI (shl32 1 v2), aR 66, aI x.1]) (h1 := h) rfl ?_
    refine A_callV hM rfl rfl (mem_GW 1332 (by decide +kernel) rfl) mi_X5_behind (As := [aI (shl32 1 v2), aI (-1), aI x.2]) (rest := [aI x.1]) (ct_X5_behind (shl32 1 v2) (-1) x.2 h (OK_bind hh)) (by decide) ⟨Nat.zero_le _, Nat.zero_le _⟩ rfl rfl (Nat.le_of_ble_eq_true rfl) (by decide) rfl (by decide) rfl (fun r F' h' hq1 => ?_)
    obtain ⟨rfl, r2, rfl, e9, hh⟩ := hq1
    subst h'
    refine A_max hM rfl rfl (mem_GW 1566 (by decide +kernel) rfl) (by decide) (Nat.le_of_ble_eq_true rfl) ⟨Nat.zero_le _, Nat.zero_le _⟩ ?_
    refine A_blk hM.1 2 (lv1 := [some (aR 66), none, some (aI v2), some (aI (maxI x.1 r2)), some (aI (x.2 + 1))]) (s1 := []) (h1 := h) rfl ?_
    refine A_go hM.1 rfl rfl ?_
    exact hin (maxI x.1 r2, x.2 + 1) hh

set_option maxRecDepth 20000 in
set_option maxHeartbeats 4000000 in
theorem c_X5_pointsWithout {k0 : K0} {G : Gx} {Qp : Option AV → Fx → Hp → Prop} (hM : MB (KM k0 0 0 Qp) G M_X5_pointsWithout 3) (v1 : Int) (h : Hp)   {P : Int → Prop} (hq : ∀ z : Int, P z → Qp (some (aI z)) FN h) (hh : OK (X5_pointsWithout v1 h) P) : ATk (KM k0 0 0 Qp) FN 0 0 M_X5_pointsWithout 0 [some (aR 66), some (aI v1), none, none, none] [] h := by
  unfold X5_pointsWithout at hh
  refine A_blk hM.1 2 (lv1 := [some (aR 66), some (aI v1), none, none, none]) (s1 := [aI v1, aR 66]) (h1 := h) rfl ?_
  refine A_callV hM rfl rfl (mem_GW 1308 (by decide +kernel) rfl) mi_X5_placeOf (As := [aI v1]) (rest := []) (ct_X5_placeOf v1 h (OK_bind hh)) (by decide) ⟨Nat.zero_le _, Nat.zero_le _⟩ rfl rfl (Nat.le_of_ble_eq_true rfl) (by decide) rfl (by decide) rfl (fun r F' h' hq1 => ?_)
  obtain ⟨rfl, r1, rfl, e9, hh⟩ := hq1
  subst h'
  refine A_blk hM.1 3 (lv1 := [some (aR 66), some (aI v1), some (aI r1), none, none]) (s1 := [aI (-1), aI r1]) (h1 := h) rfl ?_
  refine A_icmp hM.1 rfl rfl (fun hc => ?_) (fun hc => ?_)
  · replace hh := OK_t hh hc
    refine A_blk hM.1 1 (lv1 := [some (aR 66), some (aI v1), some (aI r1), none, none]) (s1 := [aI 0]) (h1 := h) rfl ?_
    exact A_reti hM.1 rfl rfl rfl (hq 0 hh)
  · replace hh := OK_f hh hc
    refine A_blk hM.1 3 (lv1 := [some (aR 66), some (aI v1), some (aI r1), none, none]) (s1 := [aI 1, aI (h 66 5)]) (h1 := h) rfl ?_
    refine A_icmp hM.1 rfl rfl (fun hc => ?_) (fun hc => ?_)
    · replace hh := OK_t hh hc
      refine A_blk hM.1 4 (lv1 := [some (aR 66), some (aI v1), some (aI r1), some (aI (-1000000)), some (aI 0)]) (s1 := []) (h1 := h) rfl ?_
      refine A_mask [true, false, true, true, true] (lv1 := [some (aR 66), none, some (aI r1), some (aI (-1000000)), some (aI 0)]) rfl ?_
      refine iter_ok (s := ((-1000000), 0)) (Gp := fun z => ATk (KM k0 0 0 Qp) FN 0 0 M_X5_pointsWithout 17 [some (aR 66), none, some (aI r1), some (aI z.1), some (aI z.2)] [] h) (E := fun z => ATk (KM k0 0 0 Qp) FN 0 0 M_X5_pointsWithout 33 [none, none, none, some (aI z), none] [] h) (fun z P1 g1 g2 g3 => c_X5_pointsWithout_l17 hM r1 h z g2 g3 g1) (OK_bind hh) (fun x3 hh => ?_)
      refine A_blk hM.1 1 (lv1 := [none, none, none, some (aI x3), none]) (s1 := [aI x3]) (h1 := h) rfl ?_
      exact A_reti hM.1 rfl rfl rfl (hq x3 hh)
    · replace hh := OK_f hh hc
      refine A_blk hM.1 1 (lv1 := [some (aR 66), some (aI v1), some (aI r1), none, none]) (s1 := [aI 0]) (h1 := h) rfl ?_
      exact A_reti hM.1 rfl rfl rfl (hq 0 hh)

set_option maxRecDepth 20000 in
set_option maxHeartbeats 4000000 in
theorem ct_X5_pointsWithout {G : Gx} (v1 : Int) (h : Hp)   {P : Int → Prop} (hh : OK (X5_pointsWithout v1 h) P) : CT G yX5_pointsWithout M_X5_pointsWithout 3 0 0 FN h [aR 66, aI v1] (fun r F' h' => F' = FN ∧ ∃ z, r = some (aI z) ∧ h' = h ∧ P z) :=
  CT.of (by decide +kernel) rfl (Nat.le_of_ble_eq_true rfl) k_X5_pointsWithout fun k0 _ _ hM => c_X5_pointsWithout hM v1 h (fun z hz => ⟨rfl, z, rfl, rfl, hz⟩) hh

theorem mi_X11_moves : MIv yX11_moves M_X11_moves 1 := ⟨⟨(mem_GW 1561 (by decide +kernel) rfl), (mem_GW 123 (by decide +kernel) rfl), by decide +kernel, by decide +kernel, by decide +kernel, by decide⟩, (mem_GW 1559 (by decide +kernel) rfl), (mem_GW 1560 (by decide +kernel) rfl)⟩
set_option maxRecDepth 20000 in
set_option maxHeartbeats 4000000 in
theorem c_X11_moves {k0 : K0} {G : Gx} {Qp : Option AV → Fx → Hp → Prop} (hM : MB (KM k0 0 0 Qp) G M_X11_moves 8) (v1 : Int) (h : Hp)   {P : (Int × Hp) → Prop} (hq : ∀ z : Int × Hp, P z → Qp (some (aI z.1)) FN z.2) (hh : OK (X11_moves v1 h) P) : ATk (KM k0 0 0 Qp) FN 0 0 M_X11_moves 0 [some (aR 0), some (aI v1), none] [] h := by
  unfold X11_moves at hh
  refine A_blk hM.1 3 (lv1 := [some (aR 0), some (aI v1), none]) (s1 := [aI v1, aR 3]) (h1 := h) rfl ?_
  refine A_callV hM rfl rfl (mem_GW 999 (by decide +kernel) rfl) mi_X7_bitWork (As := [aI v1]) (rest := []) (ct_X7_bitWork v1 h (OK_bind hh)) (by decide) ⟨Nat.zero_le _, Nat.zero_le _⟩ rfl rfl (Nat.le_of_ble_eq_true rfl) (by decide) rfl (by decide) rfl (fun r F' h' hq1 => ?_)
  obtain ⟨rfl, r1, rfl, e9, hh⟩ := hq1
  subst h'
  refine A_blk hM.1 4 (lv1 := [some (aR 0), some (aI v1), some (aI r1)]) (s1 := [aI r1, aR 3]) (h1 := h) rfl ?_
  refine A_callV hM rfl rfl (mem_GW 632 (by decide +kernel) rfl) mi_X7_isWork (As := [aI r1]) (rest := []) (ct_X7_isWork r1 h (OK_bind hh)) (by decide) ⟨Nat.zero_le _, Nat.zero_le _⟩ rfl rfl (Nat.le_of_ble_eq_true rfl) (by decide) rfl (by decide) rfl (fun r F' h' hq1 => ?_)
  obtain ⟨rfl, r2, rfl, e9, hh⟩ := hq1
  subst h'
  refine A_ifc hM.1 rfl rfl (fun hc => ?_) (fun hc => ?_)
  · replace hh := OK_t hh hc
    refine A_blk hM.1 1 (lv1 := [some (aR 0), some (aI v1), some (aI r1)]) (s1 := [aI (-1000000)]) (h1 := h) rfl ?_
    exact A_reti hM.1 rfl rfl rfl (hq ((-1000000), h) hh)
  · replace hh := OK_f hh hc
    refine A_blk hM.1 3 (lv1 := [some (aR 0), some (aI v1), some (aI r1)]) (s1 := [aI r1, aR 66]) (h1 := h) rfl ?_
    refine A_callV hM rfl rfl (mem_GW 1298 (by decide +kernel) rfl) mi_X5_solve (As := [aI r1]) (rest := []) (ct_X5_solve r1 h (OK_bind hh)) (by decide) ⟨Nat.zero_le _, Nat.zero_le _⟩ rfl rfl (Nat.le_of_ble_eq_true rfl) (by decide) rfl (by decide) rfl (fun r F' h' hq1 => ?_)
    obtain ⟨rfl, r3, rfl, e9, hh⟩ := hq1
    subst h'
    refine A_ifc hM.1 rfl rfl (fun hc => ?_) (fun hc => ?_)
    · replace hh := OK_t hh hc
      refine A_blk hM.1 2 (lv1 := [some (aR 0), some (aI v1), some (aI r1)]) (s1 := [aR 66]) (h1 := r3.2) rfl ?_
      refine A_callV hM rfl rfl (mem_GW 1341 (by decide +kernel) rfl) mi_X5_points (As := []) (rest := []) (ct_X5_points r3.2 (OK_bind hh)) (by decide) ⟨Nat.zero_le _, Nat.zero_le _⟩ rfl rfl (Nat.le_of_ble_eq_true rfl) (by decide) rfl (by decide) rfl (fun r F' h' hq1 => ?_)
      obtain ⟨rfl, r4, rfl, e9, hh⟩ := hq1
      subst h'
      refine A_blk hM.1 3 (lv1 := [some (aR 0), some (aI v1), some (aI r1)]) (s1 := [aI v1, aR 66, aI r4]) (h1 := r3.2) rfl ?_
      refine A_callV hM rfl rfl (mem_GW 1562 (by decide +kernel) rfl) mi_X5_pointsWithout (As := [aI v1]) (rest := [aI r4]) (ct_X5_pointsWithout v1 r3.2 (OK_bind hh)) (by decide) ⟨Nat.zero_le _, Nat.zero_le _⟩ rfl rfl (Nat.le_of_ble_eq_true rfl) (by decide) rfl (by decide) rfl (fun r F' h' hq1 => ?_)
      obtain ⟨rfl, r5, rfl, e9, hh⟩ := hq1
      subst h'
      refine A_blk hM.1 1 (lv1 := [some (aR 0), some (aI v1), some (aI r1)]) (s1 := [aI (r4 - r5)]) (h1 := r3.2) rfl ?_
      exact A_reti hM.1 rfl rfl rfl (hq (r4 - r5, r3.2) hh)
    · replace hh := OK_f hh hc
      refine A_blk hM.1 1 (lv1 := [some (aR 0), some (aI v1), some (aI r1)]) (s1 := [aI (-1000000)]) (h1 := r3.2) rfl ?_
      exact A_reti hM.1 rfl rfl rfl (hq ((-1000000), r3.2) hh)

set_option maxRecDepth 20000 in
set_option maxHeartbeats 4000000 in
theorem ct_X11_moves {G : Gx} (v1 : Int) (h : Hp)   {P : (Int × Hp) → Prop} (hh : OK (X11_moves v1 h) P) : CT G yX11_moves M_X11_moves 8 0 0 FN h [aR 0, aI v1] (fun r F' h' => F' = FN ∧ ∃ z, r = some (aI z.1) ∧ h' = z.2 ∧ P z) :=
  CT.of (by decide +kernel) rfl (Nat.le_of_ble_eq_true rfl) k_X11_moves fun k0 _ _ hM => c_X11_moves hM v1 h (fun z hz => ⟨rfl, z, rfl, rfl, hz⟩) hh

theorem mi_X9_numberAt : MIv yX9_numberAt M_X9_numberAt 1 := ⟨⟨(mem_GW 1578 (by decide +kernel) rfl), (mem_GW 124 (by decide +kernel) rfl), by decide +kernel, by decide +kernel, by decide +kernel, by decide⟩, (mem_GW 1576 (by decide +kernel) rfl), (mem_GW 1577 (by decide +kernel) rfl)⟩
set_option maxRecDepth 20000 in
set_option maxHeartbeats 4000000 in
theorem c_X9_numberAt_l4 {k0 : K0} {G : Gx} {Qp : Option AV → Fx → Hp → Prop} (hM : MB (KM k0 0 0 Qp) G M_X9_numberAt 2) (v1 : Int) (h : Hp) (x : Int × Int)   {P : ((Int × Int) ⊕ (Int)) → Prop} (hin : ∀ y : Int × Int, P (.inl y) → ATk (KM k0 0 0 Qp) FN 0 0 M_X9_numberAt 4 [some (aR 1), some (aI v1), some (aI y.1), some (aI y.2)] [] h) (hout0 : ∀ y : Int, P (.inr y) → ATk (KM k0 0 0 Qp) FN 0 0 M_X9_numberAt 22 [none, none, some (aI y), none] [] h) (hh : OK (X9_numberAt_l4 v1 h x) P) : ATk (KM k0 0 0 Qp) FN 0 0 M_X9_numberAt 4 [some (aR 1), some (aI v1), some (aI x.1), some (aI x.2)] [] h := by
  unfold X9_numberAt_l4 at hh
  refine A_blk hM.1 2 (lv1 := [some (aR 1), some (aI v1), some (aI x.1), some (aI x.2)]) (s1 := [aI 4, aI x.2]) (h1 := h) rfl ?_
  refine A_icmp hM.1 rfl rfl (fun hc => ?_) (fun hc => ?_)
  · replace hh := OK_t hh hc
    refine A_mask [false, false, true, false] (lv1 := [none, none, some (aI x.1), none]) rfl ?_
    exact hout0 x.1 hh
  · replace hh := OK_f hh hc
    refine A_blk hM.1 10 (lv1 := [some (aR 1), some (aI v1), some (aI x.1), some (aI x.2)]) (s1 := [aI ((v1 * 4) + x.2), aR 2, aI (shl32 x.1 8)]) (h1 := h) rfl ?_
    refine A_callSN (host := "QuotedBooks") hM rfl rfl (mem_NW 1579 (by decide +kernel) rfl) mi_X11_at ms_X11_at (As := [aR 2, aI ((v1 * 4) + x.2)]) (rest := [aI (shl32 x.1 8)]) (ct_X11_at 2 200 ((v1 * 4) + x.2) h rfl rfl (OK_bind hh)) (by decide) ⟨Nat.zero_le _, Nat.zero_le _⟩ rfl rfl (Nat.le_of_ble_eq_true rfl) (fun r F' h' hq1 => ?_)
    obtain ⟨rfl, r1, rfl, e9, hh⟩ := hq1
    subst h'
    refine A_blk hM.1 3 (lv1 := [some (aR 1), some (aI v1), some (aI (or32 (shl32 x.1 8) r1)), some (aI (x.2 + 1))]) (s1 := []) (h1 := h) rfl ?_
    refine A_go hM.1 rfl rfl ?_
    exact hin (or32 (shl32 x.1 8) r1, x.2 + 1) hh

set_option maxRecDepth 20000 in
set_option maxHeartbeats 4000000 in
theorem c_X9_numberAt {k0 : K0} {G : Gx} {Qp : Option AV → Fx → Hp → Prop} (hM : MB (KM k0 0 0 Qp) G M_X9_numberAt 2) (v1 : Int) (h : Hp)   {P : Int → Prop} (hq : ∀ z : Int, P z → Qp (some (aI z)) FN h) (hh : OK (X9_numberAt v1 h) P) : ATk (KM k0 0 0 Qp) FN 0 0 M_X9_numberAt 0 [some (aR 1), some (aI v1), none, none] [] h := by
  unfold X9_numberAt at hh
  refine A_blk hM.1 4 (lv1 := [some (aR 1), some (aI v1), some (aI 0), some (aI 0)]) (s1 := []) (h1 := h) rfl ?_
  refine iter_ok (s := (0, 0)) (Gp := fun z => ATk (KM k0 0 0 Qp) FN 0 0 M_X9_numberAt 4 [some (aR 1), some (aI v1), some (aI z.1), some (aI z.2)] [] h) (E := fun z => ATk (KM k0 0 0 Qp) FN 0 0 M_X9_numberAt 22 [none, none, some (aI z), none] [] h) (fun z P1 g1 g2 g3 => c_X9_numberAt_l4 hM v1 h z g2 g3 g1) (OK_bind hh) (fun x2 hh => ?_)
  refine A_blk hM.1 1 (lv1 := [none, none, some (aI x2), none]) (s1 := [aI x2]) (h1 := h) rfl ?_
  exact A_reti hM.1 rfl rfl rfl (hq x2 hh)

set_option maxRecDepth 20000 in
set_option maxHeartbeats 4000000 in
theorem ct_X9_numberAt {G : Gx} (v1 : Int) (h : Hp)   {P : Int → Prop} (hh : OK (X9_numberAt v1 h) P) : CT G yX9_numberAt M_X9_numberAt 2 0 0 FN h [aR 1, aI v1] (fun r F' h' => F' = FN ∧ ∃ z, r = some (aI z) ∧ h' = h ∧ P z) :=
  CT.of (by decide +kernel) rfl (Nat.le_of_ble_eq_true rfl) k_X9_numberAt fun k0 _ _ hM => c_X9_numberAt hM v1 h (fun z hz => ⟨rfl, z, rfl, rfl, hz⟩) hh

