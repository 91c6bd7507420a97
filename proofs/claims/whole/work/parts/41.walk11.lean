set_option linter.all false
theorem mi_X11_firstNotSo : MIv yX11_firstNotSo M_X11_firstNotSo 2 := ⟨⟨(mem_GW 1574 (by decide +kernel) rfl), (mem_GW 123 (by decide +kernel) rfl), by decide +kernel, by decide +kernel, by decide +kernel, by decide⟩, (mem_GW 1573 (by decide +kernel) rfl), (mem_GW 55 (by decide +kernel) rfl)⟩
set_option maxRecDepth 20000 in
set_option maxHeartbeats 4000000 in
theorem c_X11_firstNotSo_l7 {k0 : K0} {G : Gx} {Qp : Option AV → Fx → Hp → Prop} (hM : MB (KM k0 0 0 Qp) G M_X11_firstNotSo 3) (v1 : Int) (v2 : Int) (v3 : Int) (h : Hp) (x : Int)   {P : ((Int) ⊕ ((Int) ⊕ (Unit))) → Prop} (hin : ∀ y : Int, P (.inl y) → ATk (KM k0 0 0 Qp) FN 0 0 M_X11_firstNotSo 7 [some (aR 0), some (aI v1), some (aI v2), some (aI v3), some (aI y)] [] h) (hout0 : ∀ y : Int, P (.inr (.inl y)) → ATk (KM k0 0 0 Qp) FN 0 0 M_X11_firstNotSo 23 [none, none, none, none, some (aI y)] [] h) (hout1 : ∀ y : Unit, P (.inr (.inr y)) → ATk (KM k0 0 0 Qp) FN 0 0 M_X11_firstNotSo 27 [none, none, some (aI v2), some (aI v3), none] [] h) (hh : OK (X11_firstNotSo_l7 v1 v2 v3 h x) P) : ATk (KM k0 0 0 Qp) FN 0 0 M_X11_firstNotSo 7 [some (aR 0), some (aI v1), some (aI v2), some (aI v3), some (aI x)] [] h := by
  unfold X11_firstNotSo_l7 at hh
  refine A_blk hM.1 2 (lv1 := [some (aR 0), some (aI v1), some (aI v2), some (aI v3), some (aI x)]) (s1 := [aI v2, aI x]) (h1 := h) rfl ?_
  refine A_icmp hM.1 rfl rfl (fun hc => ?_) (fun hc => ?_)
  · replace hh := OK_t hh hc
    refine A_mask [false, false, true, true, false] (lv1 := [none, none, some (aI v2), some (aI v3), none]) rfl ?_
    exact hout1 () hh
  · replace hh := OK_f hh hc
    refine A_blk hM.1 2 (lv1 := [some (aR 0), some (aI v1), some (aI v2), some (aI v3), some (aI x)]) (s1 := [aI v3, aI x]) (h1 := h) rfl ?_
    refine A_icmp hM.1 rfl rfl (fun hc => ?_) (fun hc => ?_)
    · replace hh := OK_t hh hc
      refine A_mask [false, false, false, false, true] (lv1 := [none, none, none, none, some (aI x)]) rfl ?_
      exact hout0 x hh
    · replace hh := OK_f hh hc
      refine A_blk hM.1 3 (lv1 := [some (aR 0), some (aI v1), some (aI v2), some (aI v3), some (aI x)]) (s1 := [aI x, aR 1]) (h1 := h) rfl ?_
      refine A_callV hM rfl rfl (mem_GW 1575 (by decide +kernel) rfl) mi_X9_numberAt (As := [aI x]) (rest := []) (ct_X9_numberAt x h (OK_bind hh)) (by decide) ⟨Nat.zero_le _, Nat.zero_le _⟩ rfl rfl (Nat.le_of_ble_eq_true rfl) (by decide) rfl (by decide) rfl (fun r F' h' hq1 => ?_)
      obtain ⟨rfl, r2, rfl, e9, hh⟩ := hq1
      subst h'
      refine A_blk hM.1 4 (lv1 := [some (aR 0), some (aI v1), some (aI v2), some (aI v3), some (aI x)]) (s1 := [aI x, aI v1, aR 3, aI r2]) (h1 := h) rfl ?_
      refine A_callV hM rfl rfl (mem_GW 991 (by decide +kernel) rfl) mi_X7_bitWord (As := [aI v1, aI x]) (rest := [aI r2]) (ct_X7_bitWord v1 x h (OK_bind hh)) (by decide) ⟨Nat.zero_le _, Nat.zero_le _⟩ rfl rfl (Nat.le_of_ble_eq_true rfl) (by decide) rfl (by decide) rfl (fun r F' h' hq1 => ?_)
      obtain ⟨rfl, r3, rfl, e9, hh⟩ := hq1
      subst h'
      refine A_icmp hM.1 rfl rfl (fun hc => ?_) (fun hc => ?_)
      · replace hh := OK_t hh hc
        refine A_blk hM.1 1 (lv1 := [some (aR 0), some (aI v1), some (aI v2), some (aI v3), some (aI (x + 1))]) (s1 := []) (h1 := h) rfl ?_
        refine A_go hM.1 rfl rfl ?_
        exact hin (x + 1) hh
      · replace hh := OK_f hh hc
        refine A_mask [false, false, false, false, true] (lv1 := [none, none, none, none, some (aI x)]) rfl ?_
        exact hout0 x hh

set_option maxRecDepth 20000 in
set_option maxHeartbeats 4000000 in
theorem c_X11_firstNotSo {k0 : K0} {G : Gx} {Qp : Option AV → Fx → Hp → Prop} (hM : MB (KM k0 0 0 Qp) G M_X11_firstNotSo 3) (v1 : Int) (v2 : Int) (h : Hp)   {P : Int → Prop} (hq : ∀ z : Int, P z → Qp (some (aI z)) FN h) (hh : OK (X11_firstNotSo v1 v2 h) P) : ATk (KM k0 0 0 Qp) FN 0 0 M_X11_firstNotSo 0 [some (aR 0), some (aI v1), some (aI v2), none, none] [] h := by
  unfold X11_firstNotSo at hh
  refine A_blk hM.1 3 (lv1 := [some (aR 0), some (aI v1), some (aI v2), none, none]) (s1 := [aI v1, aR 3]) (h1 := h) rfl ?_
  refine A_callV hM rfl rfl (mem_GW 987 (by decide +kernel) rfl) mi_X7_bitSize (As := [aI v1]) (rest := []) (ct_X7_bitSize v1 h (OK_bind hh)) (by decide) ⟨Nat.zero_le _, Nat.zero_le _⟩ rfl rfl (Nat.le_of_ble_eq_true rfl) (by decide) rfl (by decide) rfl (fun r F' h' hq1 => ?_)
  obtain ⟨rfl, r1, rfl, e9, hh⟩ := hq1
  subst h'
  refine A_blk hM.1 3 (lv1 := [some (aR 0), some (aI v1), some (aI v2), some (aI r1), some (aI 0)]) (s1 := []) (h1 := h) rfl ?_
  refine iter_ok (s := 0) (Gp := fun z => ATk (KM k0 0 0 Qp) FN 0 0 M_X11_firstNotSo 7 [some (aR 0), some (aI v1), some (aI v2), some (aI r1), some (aI z)] [] h) (E := fun z => (∀ y, z = (.inl y) → ATk (KM k0 0 0 Qp) FN 0 0 M_X11_firstNotSo 23 [none, none, none, none, some (aI y)] [] h) ∧ (∀ y, z = (.inr y) → ATk (KM k0 0 0 Qp) FN 0 0 M_X11_firstNotSo 27 [none, none, some (aI v2), some (aI r1), none] [] h)) (fun z P1 g1 g2 g3 => c_X11_firstNotSo_l7 hM v1 v2 r1 h z g2 (fun y hy => (g3 (.inl y) hy).1 y rfl) (fun y hy => (g3 (.inr y) hy).2 y rfl) g1) (OK_bind hh) (fun x4 hh => ?_)
  refine ⟨fun y e => ?_, fun y e => ?_⟩
  · obtain ⟨y5, rfl⟩ : ∃ z, z = y := ⟨_, rfl⟩
    subst e
    refine A_blk hM.1 1 (lv1 := [none, none, none, none, some (aI y5)]) (s1 := [aI y5]) (h1 := h) rfl ?_
    exact A_reti hM.1 rfl rfl rfl (hq y5 hh)
  · obtain ⟨y6, rfl⟩ : ∃ z, z = y := ⟨_, rfl⟩
    subst e
    refine A_blk hM.1 2 (lv1 := [none, none, some (aI v2), some (aI r1), none]) (s1 := [aI r1, aI v2]) (h1 := h) rfl ?_
    refine A_icmp hM.1 rfl rfl (fun hc => ?_) (fun hc => ?_)
    · replace hh := OK_t hh hc
      refine A_blk hM.1 1 (lv1 := [none, none, some (aI v2), some (aI r1), none]) (s1 := [aI (-1)]) (h1 := h) rfl ?_
      exact A_reti hM.1 rfl rfl rfl (hq (-1) hh)
    · replace hh := OK_f hh hc
      refine A_blk hM.1 1 (lv1 := [none, none, some (aI v2), some (aI r1), none]) (s1 := [aI v2]) (h1 := h) rfl ?_
      refine A_go hM.1 rfl rfl ?_
      exact A_reti hM.1 rfl rfl rfl (hq v2 hh)

set_option maxRecDepth 20000 in
set_option maxHeartbeats 4000000 in
theorem ct_X11_firstNotSo {G : Gx} (v1 : Int) (v2 : Int) (h : Hp)   {P : Int → Prop} (hh : OK (X11_firstNotSo v1 v2 h) P) : CT G yX11_firstNotSo M_X11_firstNotSo 3 0 0 FN h [aR 0, aI v1, aI v2] (fun r F' h' => F' = FN ∧ ∃ z, r = some (aI z) ∧ h' = h ∧ P z) :=
  CT.of (by decide +kernel) rfl (Nat.le_of_ble_eq_true rfl) k_X11_firstNotSo fun k0 _ _ hM => c_X11_firstNotSo hM v1 v2 h (fun z hz => ⟨rfl, z, rfl, rfl, hz⟩) hh

theorem mi_X11_check : MIv yX11_check M_X11_check 2 := ⟨⟨(mem_GW 1570 (by decide +kernel) rfl), (mem_GW 123 (by decide +kernel) rfl), by decide +kernel, by decide +kernel, by decide +kernel, by decide⟩, (mem_GW 1568 (by decide +kernel) rfl), (mem_GW 1569 (by decide +kernel) rfl)⟩
set_option maxRecDepth 20000 in
set_option maxHeartbeats 4000000 in
theorem c_X11_check {k0 : K0} {G : Gx} {Qp : Option AV → Fx → Hp → Prop} (hM : MB (KM k0 0 0 Qp) G M_X11_check 4) (v1 : Int) (v2 : Int) (h : Hp)   {P : (Int × Hp) → Prop} (hq : ∀ z : Int × Hp, P z → Qp (some (aI z.1)) FN z.2) (hh : OK (X11_check v1 v2 h) P) : ATk (KM k0 0 0 Qp) FN 0 0 M_X11_check 0 [some (aR 0), some (aI v1), some (aI v2), none] [] h := by
  unfold X11_check at hh
  refine A_blk hM.1 3 (lv1 := [some (aR 0), some (aI v1), some (aI v2), none]) (s1 := [aI v1, aR 3]) (h1 := h) rfl ?_
  refine A_callV hM rfl rfl (mem_GW 986 (by decide +kernel) rfl) mi_X7_isBit (As := [aI v1]) (rest := []) (ct_X7_isBit v1 h (OK_bind hh)) (by decide) ⟨Nat.zero_le _, Nat.zero_le _⟩ rfl rfl (Nat.le_of_ble_eq_true rfl) (by decide) rfl (by decide) rfl (fun r F' h' hq1 => ?_)
  obtain ⟨rfl, r1, rfl, e9, hh⟩ := hq1
  subst h'
  refine A_ifc hM.1 rfl rfl (fun hc => ?_) (fun hc => ?_)
  · replace hh := OK_t hh hc
    refine A_blk hM.1 1 (lv1 := [some (aR 0), some (aI v1), some (aI v2), none]) (s1 := [aI (-2)]) (h1 := h) rfl ?_
    exact A_reti hM.1 rfl rfl rfl (hq ((-2), h) hh)
  · replace hh := OK_f hh hc
    refine A_blk hM.1 4 (lv1 := [some (aR 0), some (aI v1), some (aI v2), none]) (s1 := [aI 4, aI v2, aR 1]) (h1 := h) rfl ?_
    refine A_callV hM rfl rfl (mem_GW 644 (by decide +kernel) rfl) mi_X9_holds (As := [aI v2, aI 4]) (rest := []) (ct_X9_holds v2 4 h (OK_bind hh)) (by decide) ⟨Nat.zero_le _, Nat.zero_le _⟩ rfl rfl (Nat.le_of_ble_eq_true rfl) (by decide) rfl (by decide) rfl (fun r F' h' hq1 => ?_)
    obtain ⟨rfl, r2, rfl, e9, hh⟩ := hq1
    subst h'
    refine A_ifc hM.1 rfl rfl (fun hc => ?_) (fun hc => ?_)
    · replace hh := OK_t hh hc
      refine A_blk hM.1 3 (lv1 := [some (aR 0), some (aI v1), some (aI v2), none]) (s1 := [aI v2, aI v1, aR 0]) (h1 := h) rfl ?_
      refine A_callV hM rfl rfl (mem_GW 1571 (by decide +kernel) rfl) mi_X11_firstNotSo (As := [aI v1, aI v2]) (rest := []) (ct_X11_firstNotSo v1 v2 h (OK_bind hh)) (by decide) ⟨Nat.zero_le _, Nat.zero_le _⟩ rfl rfl (Nat.le_of_ble_eq_true rfl) (by decide) rfl (by decide) rfl (fun r F' h' hq1 => ?_)
      obtain ⟨rfl, r3, rfl, e9, hh⟩ := hq1
      subst h'
      refine A_blk hM.1 3 (lv1 := [some (aR 0), some (aI v1), some (aI v2), some (aI r3)]) (s1 := [aR 1]) (h1 := h) rfl ?_
      refine A_callV hM rfl rfl (mem_GW 657 (by decide +kernel) rfl) mi_X9_clear (As := []) (rest := []) (ct_X9_clear h (OK_bind hh)) (by decide) ⟨Nat.zero_le _, Nat.zero_le _⟩ rfl rfl (Nat.le_of_ble_eq_true rfl) (by decide) rfl (by decide) rfl (fun r F' h' hq1 => ?_)
      obtain ⟨rfl, rfl, hh⟩ := hq1
      obtain ⟨r4, rfl⟩ : ∃ z, z = h' := ⟨_, rfl⟩
      refine A_blk hM.1 1 (lv1 := [some (aR 0), some (aI v1), some (aI v2), some (aI r3)]) (s1 := [aI r3]) (h1 := r4) rfl ?_
      exact A_reti hM.1 rfl rfl rfl (hq (r3, r4) hh)
    · replace hh := OK_f hh hc
      refine A_blk hM.1 1 (lv1 := [some (aR 0), some (aI v1), some (aI v2), none]) (s1 := [aI (-2)]) (h1 := h) rfl ?_
      exact A_reti hM.1 rfl rfl rfl (hq ((-2), h) hh)

set_option maxRecDepth 20000 in
set_option maxHeartbeats 4000000 in
theorem ct_X11_check {G : Gx} (v1 : Int) (v2 : Int) (h : Hp)   {P : (Int × Hp) → Prop} (hh : OK (X11_check v1 v2 h) P) : CT G yX11_check M_X11_check 4 0 0 FN h [aR 0, aI v1, aI v2] (fun r F' h' => F' = FN ∧ ∃ z, r = some (aI z.1) ∧ h' = z.2 ∧ P z) :=
  CT.of (by decide +kernel) rfl (Nat.le_of_ble_eq_true rfl) k_X11_check fun k0 _ _ hM => c_X11_check hM v1 v2 h (fun z hz => ⟨rfl, z, rfl, rfl, hz⟩) hh

theorem mi_X5_pairs : MIv yX5_pairs M_X5_pairs 0 := ⟨⟨(mem_GW 1589 (by decide +kernel) rfl), (mem_GW 132 (by decide +kernel) rfl), by decide +kernel, by decide +kernel, by decide +kernel, by decide⟩, (mem_GW 1587 (by decide +kernel) rfl), (mem_GW 1588 (by decide +kernel) rfl)⟩
set_option maxRecDepth 20000 in
set_option maxHeartbeats 4000000 in
theorem c_X5_pairs {k0 : K0} {G : Gx} {Qp : Option AV → Fx → Hp → Prop} (hM : MB (KM k0 0 0 Qp) G M_X5_pairs 1) (h : Hp)   {P : Int → Prop} (hq : ∀ z : Int, P z → Qp (some (aI z)) FN h) (hh : OK (X5_pairs h) P) : ATk (KM k0 0 0 Qp) FN 0 0 M_X5_pairs 0 [some (aR 66)] [] h := by
  unfold X5_pairs at hh
  refine A_blk hM.1 2 (lv1 := [some (aR 66)]) (s1 := [aI (h 66 2)]) (h1 := h) rfl ?_
  exact A_reti hM.1 rfl rfl rfl (hq (h 66 2) hh)

set_option maxRecDepth 20000 in
set_option maxHeartbeats 4000000 in
theorem ct_X5_pairs {G : Gx} (h : Hp)   {P : Int → Prop} (hh : OK (X5_pairs h) P) : CT G yX5_pairs M_X5_pairs 1 0 0 FN h [aR 66] (fun r F' h' => F' = FN ∧ ∃ z, r = some (aI z) ∧ h' = h ∧ P z) :=
  CT.of (by decide +kernel) rfl (Nat.le_of_ble_eq_true rfl) k_X5_pairs fun k0 _ _ hM => c_X5_pairs hM h (fun z hz => ⟨rfl, z, rfl, rfl, hz⟩) hh

theorem mi_X11_count : MIv yX11_count M_X11_count 1 := ⟨⟨(mem_GW 1583 (by decide +kernel) rfl), (mem_GW 123 (by decide +kernel) rfl), by decide +kernel, by decide +kernel, by decide +kernel, by decide⟩, (mem_GW 1581 (by decide +kernel) rfl), (mem_GW 1582 (by decide +kernel) rfl)⟩
set_option maxRecDepth 20000 in
set_option maxHeartbeats 4000000 in
theorem c_X11_count {k0 : K0} {G : Gx} {Qp : Option AV → Fx → Hp → Prop} (hM : MB (KM k0 0 0 Qp) G M_X11_count 3) (v1 : Int) (h : Hp)   {P : Int → Prop} (hq : ∀ z : Int, P z → Qp (some (aI z)) FN h) (hh : OK (X11_count v1 h) P) : ATk (KM k0 0 0 Qp) FN 0 0 M_X11_count 0 [some (aR 0), some (aI v1), none] [] h := by
  unfold X11_count at hh
  refine A_blk hM.1 3 (lv1 := [some (aR 0), some (aI v1), none]) (s1 := [aI 19, aI 10, aI v1]) (h1 := h) rfl ?_
  refine A_callS hM rfl rfl (mem_GW 576 (by decide +kernel) rfl) mi_X11_within ms_X11_within (As := [aI v1, aI 10, aI 19]) (rest := []) (ct_X11_within v1 10 19 h (OK_bind hh)) (by decide) ⟨Nat.zero_le _, Nat.zero_le _⟩ rfl rfl (Nat.le_of_ble_eq_true rfl) (fun r F' h' hq1 => ?_)
  obtain ⟨rfl, r1, rfl, e9, hh⟩ := hq1
  subst h'
  refine A_ifc hM.1 rfl rfl (fun hc => ?_) (fun hc => ?_)
  · replace hh := OK_t hh hc
    refine A_blk hM.1 2 (lv1 := [some (aR 0), some (aI v1), none]) (s1 := [aI 20, aI v1]) (h1 := h) rfl ?_
    refine A_icmp hM.1 rfl rfl (fun hc => ?_) (fun hc => ?_)
    · replace hh := OK_t hh hc
      refine A_blk hM.1 1 (lv1 := [some (aR 0), some (aI v1), none]) (s1 := [aI v1]) (h1 := h) rfl ?_
      refine A_tsw hM.1 rfl [(0, 39), (1, 43), (2, 47), (3, 51), (4, 55), (5, 58), (6, 62), (7, 66), (8, 70), (9, 74)] 78 (by decide +kernel) ?_
      refine ⟨fun hc => ?_, fun hc => ?_⟩
      · replace hh := OK_t hh hc
        refine A_blk hM.1 2 (lv1 := [some (aR 0), some (aI v1), none]) (s1 := [aR 3]) (h1 := h) rfl ?_
        refine A_callV hM rfl rfl (mem_GW 1422 (by decide +kernel) rfl) mi_X7_authors (As := []) (rest := []) (ct_X7_authors h (OK_bind hh)) (by decide) ⟨Nat.zero_le _, Nat.zero_le _⟩ rfl rfl (Nat.le_of_ble_eq_true rfl) (by decide) rfl (by decide) rfl (fun r F' h' hq1 => ?_)
        obtain ⟨rfl, r2, rfl, e9, hh⟩ := hq1
        subst h'
        exact A_reti hM.1 rfl rfl rfl (hq r2 hh)
      replace hh := OK_f hh hc
      refine ⟨fun hc => ?_, fun hc => ?_⟩
      · replace hh := OK_t hh hc
        refine A_blk hM.1 2 (lv1 := [some (aR 0), some (aI v1), none]) (s1 := [aR 3]) (h1 := h) rfl ?_
        refine A_callV hM rfl rfl (mem_GW 1585 (by decide +kernel) rfl) mi_X7_works (As := []) (rest := []) (ct_X7_works h (OK_bind hh)) (by decide) ⟨Nat.zero_le _, Nat.zero_le _⟩ rfl rfl (Nat.le_of_ble_eq_true rfl) (by decide) rfl (by decide) rfl (fun r F' h' hq1 => ?_)
        obtain ⟨rfl, r3, rfl, e9, hh⟩ := hq1
        subst h'
        exact A_reti hM.1 rfl rfl rfl (hq r3 hh)
      replace hh := OK_f hh hc
      refine ⟨fun hc => ?_, fun hc => ?_⟩
      · replace hh := OK_t hh hc
        refine A_blk hM.1 2 (lv1 := [some (aR 0), some (aI v1), none]) (s1 := [aR 3]) (h1 := h) rfl ?_
        refine A_callV hM rfl rfl (mem_GW 1221 (by decide +kernel) rfl) mi_X7_writers (As := []) (rest := []) (ct_X7_writers h (OK_bind hh)) (by decide) ⟨Nat.zero_le _, Nat.zero_le _⟩ rfl rfl (Nat.le_of_ble_eq_true rfl) (by decide) rfl (by decide) rfl (fun r F' h' hq1 => ?_)
        obtain ⟨rfl, r4, rfl, e9, hh⟩ := hq1
        subst h'
        exact A_reti hM.1 rfl rfl rfl (hq r4 hh)
      replace hh := OK_f hh hc
      refine ⟨fun hc => ?_, fun hc => ?_⟩
      · replace hh := OK_t hh hc
        refine A_blk hM.1 2 (lv1 := [some (aR 0), some (aI v1), none]) (s1 := [aR 3]) (h1 := h) rfl ?_
        refine A_callV hM rfl rfl (mem_GW 669 (by decide +kernel) rfl) mi_X7_bits (As := []) (rest := []) (ct_X7_bits h (OK_bind hh)) (by decide) ⟨Nat.zero_le _, Nat.zero_le _⟩ rfl rfl (Nat.le_of_ble_eq_true rfl) (by decide) rfl (by decide) rfl (fun r F' h' hq1 => ?_)
        obtain ⟨rfl, r5, rfl, e9, hh⟩ := hq1
        subst h'
        exact A_reti hM.1 rfl rfl rfl (hq r5 hh)
      replace hh := OK_f hh hc
      refine ⟨fun hc => ?_, fun hc => ?_⟩
      · replace hh := OK_t hh hc
        refine A_blk hM.1 2 (lv1 := [some (aR 0), some (aI v1), none]) (s1 := [aI (h 0 15)]) (h1 := h) rfl ?_
        exact A_reti hM.1 rfl rfl rfl (hq (h 0 15) hh)
      replace hh := OK_f hh hc
      refine ⟨fun hc => ?_, fun hc => ?_⟩
      · replace hh := OK_t hh hc
        refine A_blk hM.1 2 (lv1 := [some (aR 0), some (aI v1), none]) (s1 := [aR 1]) (h1 := h) rfl ?_
        refine A_callV hM rfl rfl (mem_GW 624 (by decide +kernel) rfl) mi_X9_size (As := []) (rest := []) (ct_X9_size h (OK_bind hh)) (by decide) ⟨Nat.zero_le _, Nat.zero_le _⟩ rfl rfl (Nat.le_of_ble_eq_true rfl) (by decide) rfl (by decide) rfl (fun r F' h' hq1 => ?_)
        obtain ⟨rfl, r6, rfl, e9, hh⟩ := hq1
        subst h'
        exact A_reti hM.1 rfl rfl rfl (hq r6 hh)
      replace hh := OK_f hh hc
      refine ⟨fun hc => ?_, fun hc => ?_⟩
      · replace hh := OK_t hh hc
        refine A_blk hM.1 2 (lv1 := [some (aR 0), some (aI v1), none]) (s1 := [aR 28]) (h1 := h) rfl ?_
        refine A_callV hM rfl rfl (mem_GW 1584 (by decide +kernel) rfl) mi_X10_clauses (As := []) (rest := []) (ct_X10_clauses 28 h (by decide) (OK_bind hh)) (by decide) ⟨Nat.zero_le _, Nat.zero_le _⟩ rfl rfl (Nat.le_of_ble_eq_true rfl) (by decide) rfl (by decide) rfl (fun r F' h' hq1 => ?_)
        obtain ⟨rfl, r7, rfl, e9, hh⟩ := hq1
        subst h'
        exact A_reti hM.1 rfl rfl rfl (hq r7 hh)
      replace hh := OK_f hh hc
      refine ⟨fun hc => ?_, fun hc => ?_⟩
      · replace hh := OK_t hh hc
        refine A_blk hM.1 2 (lv1 := [some (aR 0), some (aI v1), none]) (s1 := [aR 36]) (h1 := h) rfl ?_
        refine A_callV hM rfl rfl (mem_GW 1584 (by decide +kernel) rfl) mi_X10_clauses (As := []) (rest := []) (ct_X10_clauses 36 h (by decide) (OK_bind hh)) (by decide) ⟨Nat.zero_le _, Nat.zero_le _⟩ rfl rfl (Nat.le_of_ble_eq_true rfl) (by decide) rfl (by decide) rfl (fun r F' h' hq1 => ?_)
        obtain ⟨rfl, r8, rfl, e9, hh⟩ := hq1
        subst h'
        exact A_reti hM.1 rfl rfl rfl (hq r8 hh)
      replace hh := OK_f hh hc
      refine ⟨fun hc => ?_, fun hc => ?_⟩
      · replace hh := OK_t hh hc
        refine A_blk hM.1 2 (lv1 := [some (aR 0), some (aI v1), none]) (s1 := [aR 44]) (h1 := h) rfl ?_
        refine A_callV hM rfl rfl (mem_GW 1584 (by decide +kernel) rfl) mi_X10_clauses (As := []) (rest := []) (ct_X10_clauses 44 h (by decide) (OK_bind hh)) (by decide) ⟨Nat.zero_le _, Nat.zero_le _⟩ rfl rfl (Nat.le_of_ble_eq_true rfl) (by decide) rfl (by decide) rfl (fun r F' h' hq1 => ?_)
        obtain ⟨rfl, r9, rfl, e9, hh⟩ := hq1
        subst h'
        exact A_reti hM.1 rfl rfl rfl (hq r9 hh)
      replace hh := OK_f hh hc
      refine ⟨fun hc => ?_, fun hc => ?_⟩
      · replace hh := OK_t hh hc
        refine A_blk hM.1 2 (lv1 := [some (aR 0), some (aI v1), none]) (s1 := [aR 66]) (h1 := h) rfl ?_
        refine A_callV hM rfl rfl (mem_GW 1586 (by decide +kernel) rfl) mi_X5_pairs (As := []) (rest := []) (ct_X5_pairs h (OK_bind hh)) (by decide) ⟨Nat.zero_le _, Nat.zero_le _⟩ rfl rfl (Nat.le_of_ble_eq_true rfl) (by decide) rfl (by decide) rfl (fun r F' h' hq1 => ?_)
        obtain ⟨rfl, r10, rfl, e9, hh⟩ := hq1
        subst h'
        exact A_reti hM.1 rfl rfl rfl (hq r10 hh)
      replace hh := OK_f hh hc
      refine A_blk hM.1 1 (lv1 := [some (aR 0), some (aI v1), none]) (s1 := [aI (-1)]) (h1 := h) rfl ?_
      exact A_reti hM.1 rfl rfl rfl (hq (-1) hh)
    · replace hh := OK_f hh hc
      refine A_blk hM.1 5 (lv1 := [some (aR 0), some (aI v1), none]) (s1 := [aI (v1 - 20), aR 3]) (h1 := h) rfl ?_
      refine A_callV hM rfl rfl (mem_GW 632 (by decide +kernel) rfl) mi_X7_isWork (As := [aI (v1 - 20)]) (rest := []) (ct_X7_isWork (v1 - 20) h (OK_bind hh)) (by decide) ⟨Nat.zero_le _, Nat.zero_le _⟩ rfl rfl (Nat.le_of_ble_eq_true rfl) (by decide) rfl (by decide) rfl (fun r F' h' hq1 => ?_)
      obtain ⟨rfl, r11, rfl, e9, hh⟩ := hq1
      subst h'
      refine A_ifc hM.1 rfl rfl (fun hc => ?_) (fun hc => ?_)
      · replace hh := OK_t hh hc
        refine A_blk hM.1 1 (lv1 := [some (aR 0), some (aI v1), none]) (s1 := [aI (-1)]) (h1 := h) rfl ?_
        exact A_reti hM.1 rfl rfl rfl (hq (-1) hh)
      · replace hh := OK_f hh hc
        refine A_blk hM.1 5 (lv1 := [some (aR 0), some (aI v1), none]) (s1 := [aI (v1 - 20), aR 3]) (h1 := h) rfl ?_
        refine A_callV hM rfl rfl (mem_GW 921 (by decide +kernel) rfl) mi_X7_wordsLeft (As := [aI (v1 - 20)]) (rest := []) (ct_X7_wordsLeft (v1 - 20) h (OK_bind hh)) (by decide) ⟨Nat.zero_le _, Nat.zero_le _⟩ rfl rfl (Nat.le_of_ble_eq_true rfl) (by decide) rfl (by decide) rfl (fun r F' h' hq1 => ?_)
        obtain ⟨rfl, r12, rfl, e9, hh⟩ := hq1
        subst h'
        refine A_go hM.1 rfl rfl ?_
        exact A_reti hM.1 rfl rfl rfl (hq r12 hh)
  · replace hh := OK_f hh hc
    refine A_blk hM.1 4 (lv1 := [some (aR 0), some (aI v1), none]) (s1 := [aI (v1 - 10), aR 0]) (h1 := h) rfl ?_
    refine A_callV hM rfl rfl (mem_GW 703 (by decide +kernel) rfl) mi_X11_wayOf (As := [aI (v1 - 10)]) (rest := []) (ct_X11_wayOf (v1 - 10) h (OK_bind hh)) (by decide) ⟨Nat.zero_le _, Nat.zero_le _⟩ rfl rfl (Nat.le_of_ble_eq_true rfl) (by decide) rfl (by decide) rfl (fun r F' h' hq1 => ?_)
    obtain ⟨rfl, r13, rfl, e9, hh⟩ := hq1
    subst h'
    obtain ⟨ho14, hh⟩ := OK_g hh
    refine A_blk hM.1 2 (lv1 := [some (aR 0), some (aI v1), some (aO r13)]) (s1 := [aO r13]) (h1 := h) rfl ?_
    cases r13 with
    | none =>
      refine A_ifnonnullF hM.1 rfl rfl ?_
      refine A_blk hM.1 1 (lv1 := [some (aR 0), some (aI v1), some (aN)]) (s1 := [aI (-1)]) (h1 := h) rfl ?_
      refine A_go hM.1 rfl rfl ?_
      exact A_reti hM.1 rfl rfl rfl (hq (-1) hh)
    | some t =>
      have ht : t ∈ txL := okO_in ho14
      refine A_ifnonnullT hM.1 rfl rfl ?_
      refine A_blk hM.1 1 (lv1 := [some (aR 0), some (aI v1), some (aR t)]) (s1 := [aR t]) (h1 := h) rfl ?_
      refine A_callV hM rfl rfl (mem_GW 1584 (by decide +kernel) rfl) mi_X10_clauses (As := []) (rest := []) (ct_X10_clauses t h ht (OK_bind hh)) (by decide) ⟨Nat.zero_le _, Nat.zero_le _⟩ rfl rfl (Nat.le_of_ble_eq_true rfl) (tx_l0 ht) (tx_k0 ht) (by decide) rfl (fun r F' h' hq1 => ?_)
      obtain ⟨rfl, r15, rfl, e9, hh⟩ := hq1
      subst h'
      exact A_reti hM.1 rfl rfl rfl (hq r15 hh)

set_option maxRecDepth 20000 in
set_option maxHeartbeats 4000000 in
theorem ct_X11_count {G : Gx} (v1 : Int) (h : Hp)   {P : Int → Prop} (hh : OK (X11_count v1 h) P) : CT G yX11_count M_X11_count 3 0 0 FN h [aR 0, aI v1] (fun r F' h' => F' = FN ∧ ∃ z, r = some (aI z) ∧ h' = h ∧ P z) :=
  CT.of (by decide +kernel) rfl (Nat.le_of_ble_eq_true rfl) k_X11_count fun k0 _ _ hM => c_X11_count hM v1 h (fun z hz => ⟨rfl, z, rfl, rfl, hz⟩) hh

theorem mi_X12_lies : MIs yX12_lies M_X12_lies 3 := ⟨(mem_GW 1881 (by decide +kernel) rfl), (mem_GW 135 (by decide +kernel) rfl), by decide +kernel, by decide +kernel, by decide +kernel, by decide⟩
theorem ms_X12_lies : .static yX12_lies ∈ GW := (mem_GW 1880 (by decide +kernel) rfl)
set_option maxRecDepth 20000 in
set_option maxHeartbeats 4000000 in
theorem c_X12_lies {k0 : K0} {G : Gx} {Qp : Option AV → Fx → Hp → Prop} (hM : MB (KM k0 0 0 Qp) G M_X12_lies 1) (v0 : Int) (v2 : Int) (v4 : Int) (h : Hp)  {P : Int → Prop} (hq : ∀ z : Int, P z → Qp (some (aI z)) FN h) (hh : OK (X12_lies v0 v2 v4) P) : ATk (KM k0 0 0 Qp) FN 0 0 M_X12_lies 0 [some (aL v0), none, some (aL v2), none, some (aL v4), none] [] h := by
  unfold X12_lies at hh
  refine A_blk hM.1 3 (lv1 := [some (aL v0), none, some (aL v2), none, some (aL v4), none]) (s1 := [aI (cmp64 v0 v2)]) (h1 := h) rfl ?_
  refine A_ifc hM.1 rfl rfl (fun hc => ?_) (fun hc => ?_)
  · replace hh := OK_t hh hc
    refine A_blk hM.1 1 (lv1 := [some (aL v0), none, some (aL v2), none, some (aL v4), none]) (s1 := [aI 0]) (h1 := h) rfl ?_
    exact A_retz hM.1 rfl rfl rfl (by decide) (hq 0 hh)
  · replace hh := OK_f hh hc
    refine A_blk hM.1 3 (lv1 := [some (aL v0), none, some (aL v2), none, some (aL v4), none]) (s1 := [aI (cmp64 v0 v4)]) (h1 := h) rfl ?_
    refine A_ifc hM.1 rfl rfl (fun hc => ?_) (fun hc => ?_)
    · replace hh := OK_t hh hc
      refine A_blk hM.1 1 (lv1 := [some (aL v0), none, some (aL v2), none, some (aL v4), none]) (s1 := [aI 0]) (h1 := h) rfl ?_
      exact A_retz hM.1 rfl rfl rfl (by decide) (hq 0 hh)
    · replace hh := OK_f hh hc
      refine A_blk hM.1 1 (lv1 := [some (aL v0), none, some (aL v2), none, some (aL v4), none]) (s1 := [aI 1]) (h1 := h) rfl ?_
      refine A_go hM.1 rfl rfl ?_
      exact A_retz hM.1 rfl rfl rfl (by decide) (hq 1 hh)

set_option maxRecDepth 20000 in
set_option maxHeartbeats 4000000 in
theorem ct_X12_lies {G : Gx} (v0 : Int) (v2 : Int) (v4 : Int) (h : Hp)  {P : Int → Prop} (hh : OK (X12_lies v0 v2 v4) P) : CT G yX12_lies M_X12_lies 1 0 0 FN h [aL v0, aL v2, aL v4] (fun r F' h' => F' = FN ∧ ∃ z, r = some (aI z) ∧ h' = h ∧ P z) :=
  CT.of (by decide +kernel) rfl (Nat.le_of_ble_eq_true rfl) k_X12_lies fun k0 _ _ hM => c_X12_lies hM v0 v2 v4 h (fun z hz => ⟨rfl, z, rfl, rfl, hz⟩) hh

theorem mi_X12_has : MIs yX12_has M_X12_has 2 := ⟨(mem_GW 2197 (by decide +kernel) rfl), (mem_GW 135 (by decide +kernel) rfl), by decide +kernel, by decide +kernel, by decide +kernel, by decide⟩
theorem ms_X12_has : .static yX12_has ∈ GW := (mem_GW 2196 (by decide +kernel) rfl)
set_option maxRecDepth 20000 in
set_option maxHeartbeats 4000000 in
theorem c_X12_has {k0 : K0} {G : Gx} {Qp : Option AV → Fx → Hp → Prop} (hM : MB (KM k0 0 0 Qp) G M_X12_has 1) (v0 : Int) (v2 : Int) (h : Hp)  {P : Int → Prop} (hq : ∀ z : Int, P z → Qp (some (aI z)) FN h) (hh : OK (X12_has v0 v2) P) : ATk (KM k0 0 0 Qp) FN 0 0 M_X12_has 0 [some (aL v0), none, some (aI v2)] [] h := by
  unfold X12_has at hh
  refine A_blk hM.1 7 (lv1 := [some (aL v0), none, some (aI v2)]) (s1 := [aI (cmp64 (and64 (shr64 v0 v2) 1) 1)]) (h1 := h) rfl ?_
  refine A_ifc hM.1 rfl rfl (fun hc => ?_) (fun hc => ?_)
  · replace hh := OK_t hh hc
    refine A_blk hM.1 1 (lv1 := [some (aL v0), none, some (aI v2)]) (s1 := [aI 0]) (h1 := h) rfl ?_
    exact A_retz hM.1 rfl rfl rfl (by decide) (hq 0 hh)
  · replace hh := OK_f hh hc
    refine A_blk hM.1 1 (lv1 := [some (aL v0), none, some (aI v2)]) (s1 := [aI 1]) (h1 := h) rfl ?_
    refine A_go hM.1 rfl rfl ?_
    exact A_retz hM.1 rfl rfl rfl (by decide) (hq 1 hh)

set_option maxRecDepth 20000 in
set_option maxHeartbeats 4000000 in
theorem ct_X12_has {G : Gx} (v0 : Int) (v2 : Int) (h : Hp)  {P : Int → Prop} (hh : OK (X12_has v0 v2) P) : CT G yX12_has M_X12_has 1 0 0 FN h [aL v0, aI v2] (fun r F' h' => F' = FN ∧ ∃ z, r = some (aI z) ∧ h' = h ∧ P z) :=
  CT.of (by decide +kernel) rfl (Nat.le_of_ble_eq_true rfl) k_X12_has fun k0 _ _ hM => c_X12_has hM v0 v2 h (fun z hz => ⟨rfl, z, rfl, rfl, hz⟩) hh

theorem mi_X12_sizeOf : MIs yX12_sizeOf M_X12_sizeOf 1 := ⟨(mem_GW 2166 (by decide +kernel) rfl), (mem_GW 135 (by decide +kernel) rfl), by decide +kernel, by decide +kernel, by decide +kernel, by decide⟩
theorem ms_X12_sizeOf : .static yX12_sizeOf ∈ GW := (mem_GW 2165 (by decide +kernel) rfl)
set_option maxRecDepth 20000 in
set_option maxHeartbeats 4000000 in
theorem c_X12_sizeOf_l4 {k0 : K0} {G : Gx} {Qp : Option AV → Fx → Hp → Prop} (hM : MB (KM k0 0 0 Qp) G M_X12_sizeOf 1) (x : Int × Int) (h : Hp)  {P : ((Int × Int) ⊕ (Int)) → Prop} (hin : ∀ y : Int × Int, P (.inl y) → ATk (KM k0 0 0 Qp) FN 0 0 M_X12_sizeOf 4 [none, none, some (aI y.1), some (aL y.2), none] [] h) (hout0 : ∀ y : Int, P (.inr y) → ATk (KM k0 0 0 Qp) FN 0 0 M_X12_sizeOf 16 [none, none, some (aI y), none, none] [] h) (hh : OK (X12_sizeOf_l4 x) P) : ATk (KM k0 0 0 Qp) FN 0 0 M_X12_sizeOf 4 [none, none, some (aI x.1), some (aL x.2), none] [] h := by
  unfold X12_sizeOf_l4 at hh
  refine A_blk hM.1 3 (lv1 := [none, none, some (aI x.1), some (aL x.2), none]) (s1 := [aI (cmp64 x.2 0)]) (h1 := h) rfl ?_
  refine A_ifc hM.1 rfl rfl (fun hc => ?_) (fun hc => ?_)
  · replace hh := OK_t hh hc
    refine A_mask [true, true, true, false, true] (lv1 := [none, none, some (aI x.1), none, none]) rfl ?_
    exact hout0 x.1 hh
  · replace hh := OK_f hh hc
    refine A_blk hM.1 7 (lv1 := [none, none, some (aI (x.1 + 1)), some (aL (and64 x.2 (x.2 - 1))), none]) (s1 := []) (h1 := h) rfl ?_
    refine A_go hM.1 rfl rfl ?_
    exact hin (x.1 + 1, and64 x.2 (x.2 - 1)) hh

set_option maxRecDepth 20000 in
set_option maxHeartbeats 4000000 in
theorem c_X12_sizeOf {k0 : K0} {G : Gx} {Qp : Option AV → Fx → Hp → Prop} (hM : MB (KM k0 0 0 Qp) G M_X12_sizeOf 1) (v0 : Int) (h : Hp)  {P : Int → Prop} (hq : ∀ z : Int, P z → Qp (some (aI z)) FN h) (hh : OK (X12_sizeOf v0) P) : ATk (KM k0 0 0 Qp) FN 0 0 M_X12_sizeOf 0 [some (aL v0), none, none, none, none] [] h := by
  unfold X12_sizeOf at hh
  refine A_blk hM.1 4 (lv1 := [some (aL v0), none, some (aI 0), some (aL v0), none]) (s1 := []) (h1 := h) rfl ?_
  refine A_mask [false, true, true, true, true] (lv1 := [none, none, some (aI 0), some (aL v0), none]) rfl ?_
  refine iter_ok (s := (0, v0)) (Gp := fun z => ATk (KM k0 0 0 Qp) FN 0 0 M_X12_sizeOf 4 [none, none, some (aI z.1), some (aL z.2), none] [] h) (E := fun z => ATk (KM k0 0 0 Qp) FN 0 0 M_X12_sizeOf 16 [none, none, some (aI z), none, none] [] h) (fun z P1 g1 g2 g3 => c_X12_sizeOf_l4 hM  z h g2 g3 g1) (OK_bind hh) (fun x1 hh => ?_)
  refine A_blk hM.1 1 (lv1 := [none, none, some (aI x1), none, none]) (s1 := [aI x1]) (h1 := h) rfl ?_
  exact A_reti hM.1 rfl rfl rfl (hq x1 hh)

set_option maxRecDepth 20000 in
set_option maxHeartbeats 4000000 in
theorem ct_X12_sizeOf {G : Gx} (v0 : Int) (h : Hp)  {P : Int → Prop} (hh : OK (X12_sizeOf v0) P) : CT G yX12_sizeOf M_X12_sizeOf 1 0 0 FN h [aL v0] (fun r F' h' => F' = FN ∧ ∃ z, r = some (aI z) ∧ h' = h ∧ P z) :=
  CT.of (by decide +kernel) rfl (Nat.le_of_ble_eq_true rfl) k_X12_sizeOf fun k0 _ _ hM => c_X12_sizeOf hM v0 h (fun z hz => ⟨rfl, z, rfl, rfl, hz⟩) hh

theorem mi_X12_isAuthor : MIv yX12_isAuthor M_X12_isAuthor 1 := ⟨⟨(mem_GW 1890 (by decide +kernel) rfl), (mem_GW 135 (by decide +kernel) rfl), by decide +kernel, by decide +kernel, by decide +kernel, by decide⟩, (mem_GW 1889 (by decide +kernel) rfl), (mem_GW 56 (by decide +kernel) rfl)⟩
set_option maxRecDepth 20000 in
set_option maxHeartbeats 4000000 in
theorem c_X12_isAuthor {k0 : K0} {G : Gx} {Qp : Option AV → Fx → Hp → Prop} (hM : MB (KM k0 0 0 Qp) G M_X12_isAuthor 2) (v1 : Int) (h : Hp)   {P : Int → Prop} (hq : ∀ z : Int, P z → Qp (some (aI z)) FN h) (hh : OK (X12_isAuthor v1 h) P) : ATk (KM k0 0 0 Qp) FN 0 0 M_X12_isAuthor 0 [some (aR 150), some (aI v1)] [] h := by
  unfold X12_isAuthor at hh
  refine A_blk hM.1 8 (lv1 := [some (aR 150), some (aI v1)]) (s1 := [aL (w32 ((h 150 2) - 1)), aL 0, aL (w32 v1)]) (h1 := h) rfl ?_
  refine A_callS hM rfl rfl (mem_GW 1879 (by decide +kernel) rfl) mi_X12_lies ms_X12_lies (As := [aL (w32 v1), aL 0, aL (w32 ((h 150 2) - 1))]) (rest := []) (ct_X12_lies (w32 v1) 0 (w32 ((h 150 2) - 1)) h (OK_bind hh)) (by decide) ⟨Nat.zero_le _, Nat.zero_le _⟩ rfl rfl (Nat.le_of_ble_eq_true rfl) (fun r F' h' hq1 => ?_)
  obtain ⟨rfl, r1, rfl, e9, hh⟩ := hq1
  subst h'
  obtain ⟨hz2, hh⟩ := OK_g hh
  exact A_retz hM.1 rfl rfl rfl hz2 (hq r1 hh)

set_option maxRecDepth 20000 in
set_option maxHeartbeats 4000000 in
theorem ct_X12_isAuthor {G : Gx} (v1 : Int) (h : Hp)   {P : Int → Prop} (hh : OK (X12_isAuthor v1 h) P) : CT G yX12_isAuthor M_X12_isAuthor 2 0 0 FN h [aR 150, aI v1] (fun r F' h' => F' = FN ∧ ∃ z, r = some (aI z) ∧ h' = h ∧ P z) :=
  CT.of (by decide +kernel) rfl (Nat.le_of_ble_eq_true rfl) k_X12_isAuthor fun k0 _ _ hM => c_X12_isAuthor hM v1 h (fun z hz => ⟨rfl, z, rfl, rfl, hz⟩) hh

theorem mi_X12_isWork : MIv yX12_isWork M_X12_isWork 1 := ⟨⟨(mem_GW 1916 (by decide +kernel) rfl), (mem_GW 135 (by decide +kernel) rfl), by decide +kernel, by decide +kernel, by decide +kernel, by decide⟩, (mem_GW 1915 (by decide +kernel) rfl), (mem_GW 58 (by decide +kernel) rfl)⟩
set_option maxRecDepth 20000 in
set_option maxHeartbeats 4000000 in
theorem c_X12_isWork {k0 : K0} {G : Gx} {Qp : Option AV → Fx → Hp → Prop} (hM : MB (KM k0 0 0 Qp) G M_X12_isWork 2) (v1 : Int) (h : Hp)   {P : Int → Prop} (hq : ∀ z : Int, P z → Qp (some (aI z)) FN h) (hh : OK (X12_isWork v1 h) P) : ATk (KM k0 0 0 Qp) FN 0 0 M_X12_isWork 0 [some (aR 150), some (aI v1)] [] h := by
  unfold X12_isWork at hh
  refine A_blk hM.1 8 (lv1 := [some (aR 150), some (aI v1)]) (s1 := [aL (w32 ((h 150 3) - 1)), aL 0, aL (w32 v1)]) (h1 := h) rfl ?_
  refine A_callS hM rfl rfl (mem_GW 1879 (by decide +kernel) rfl) mi_X12_lies ms_X12_lies (As := [aL (w32 v1), aL 0, aL (w32 ((h 150 3) - 1))]) (rest := []) (ct_X12_lies (w32 v1) 0 (w32 ((h 150 3) - 1)) h (OK_bind hh)) (by decide) ⟨Nat.zero_le _, Nat.zero_le _⟩ rfl rfl (Nat.le_of_ble_eq_true rfl) (fun r F' h' hq1 => ?_)
  obtain ⟨rfl, r1, rfl, e9, hh⟩ := hq1
  subst h'
  obtain ⟨hz2, hh⟩ := OK_g hh
  exact A_retz hM.1 rfl rfl rfl hz2 (hq r1 hh)

set_option maxRecDepth 20000 in
set_option maxHeartbeats 4000000 in
theorem ct_X12_isWork {G : Gx} (v1 : Int) (h : Hp)   {P : Int → Prop} (hh : OK (X12_isWork v1 h) P) : CT G yX12_isWork M_X12_isWork 2 0 0 FN h [aR 150, aI v1] (fun r F' h' => F' = FN ∧ ∃ z, r = some (aI z) ∧ h' = h ∧ P z) :=
  CT.of (by decide +kernel) rfl (Nat.le_of_ble_eq_true rfl) k_X12_isWork fun k0 _ _ hM => c_X12_isWork hM v1 h (fun z hz => ⟨rfl, z, rfl, rfl, hz⟩) hh

theorem mi_X12_isLeft : MIv yX12_isLeft M_X12_isLeft 1 := ⟨⟨(mem_GW 2053 (by decide +kernel) rfl), (mem_GW 135 (by decide +kernel) rfl), by decide +kernel, by decide +kernel, by decide +kernel, by decide⟩, (mem_GW 2052 (by decide +kernel) rfl), (mem_GW 81 (by decide +kernel) rfl)⟩
set_option maxRecDepth 20000 in
set_option maxHeartbeats 4000000 in
theorem c_X12_isLeft {k0 : K0} {G : Gx} {Qp : Option AV → Fx → Hp → Prop} (hM : MB (KM k0 0 0 Qp) G M_X12_isLeft 3) (v1 : Int) (h : Hp)   {P : Int → Prop} (hq : ∀ z : Int, P z → Qp (some (aI z)) FN h) (hh : OK (X12_isLeft v1 h) P) : ATk (KM k0 0 0 Qp) FN 0 0 M_X12_isLeft 0 [some (aR 150), some (aI v1)] [] h := by
  unfold X12_isLeft at hh
  refine A_blk hM.1 2 (lv1 := [some (aR 150), some (aI v1)]) (s1 := [aI v1, aR 150]) (h1 := h) rfl ?_
  refine A_callV hM rfl rfl (mem_GW 1913 (by decide +kernel) rfl) mi_X12_isWork (As := [aI v1]) (rest := []) (ct_X12_isWork v1 h (OK_bind hh)) (by decide) ⟨Nat.zero_le _, Nat.zero_le _⟩ rfl rfl (Nat.le_of_ble_eq_true rfl) (by decide) rfl (by decide) rfl (fun r F' h' hq1 => ?_)
  obtain ⟨rfl, r1, rfl, e9, hh⟩ := hq1
  subst h'
  refine A_ifc hM.1 rfl rfl (fun hc => ?_) (fun hc => ?_)
  · replace hh := OK_t hh hc
    refine A_blk hM.1 1 (lv1 := [some (aR 150), some (aI v1)]) (s1 := [aI 0]) (h1 := h) rfl ?_
    exact A_retz hM.1 rfl rfl rfl (by decide) (hq 0 hh)
  · replace hh := OK_f hh hc
    refine A_blk hM.1 3 (lv1 := [some (aR 150), some (aI v1)]) (s1 := [aI v1, aR 156]) (h1 := h) rfl ?_
    obtain ⟨g2, hh⟩ := OK_g hh
    refine A_ald hM.1 rfl (Or.inl ⟨rfl, rfl⟩) rfl (by decide) rfl g2 ?_
    refine A_ifc hM.1 rfl rfl (fun hc => ?_) (fun hc => ?_)
    · replace hh := OK_t hh hc
      refine A_blk hM.1 1 (lv1 := [some (aR 150), some (aI v1)]) (s1 := [aI 0]) (h1 := h) rfl ?_
      exact A_retz hM.1 rfl rfl rfl (by decide) (hq 0 hh)
    · replace hh := OK_f hh hc
      refine A_blk hM.1 1 (lv1 := [some (aR 150), some (aI v1)]) (s1 := [aI 1]) (h1 := h) rfl ?_
      refine A_go hM.1 rfl rfl ?_
      exact A_retz hM.1 rfl rfl rfl (by decide) (hq 1 hh)

set_option maxRecDepth 20000 in
set_option maxHeartbeats 4000000 in
theorem ct_X12_isLeft {G : Gx} (v1 : Int) (h : Hp)   {P : Int → Prop} (hh : OK (X12_isLeft v1 h) P) : CT G yX12_isLeft M_X12_isLeft 3 0 0 FN h [aR 150, aI v1] (fun r F' h' => F' = FN ∧ ∃ z, r = some (aI z) ∧ h' = h ∧ P z) :=
  CT.of (by decide +kernel) rfl (Nat.le_of_ble_eq_true rfl) k_X12_isLeft fun k0 _ _ hM => c_X12_isLeft hM v1 h (fun z hz => ⟨rfl, z, rfl, rfl, hz⟩) hh

theorem mi_X12_isWriter : MIv yX12_isWriter M_X12_isWriter 1 := ⟨⟨(mem_GW 1925 (by decide +kernel) rfl), (mem_GW 135 (by decide +kernel) rfl), by decide +kernel, by decide +kernel, by decide +kernel, by decide⟩, (mem_GW 1924 (by decide +kernel) rfl), (mem_GW 59 (by decide +kernel) rfl)⟩
set_option maxRecDepth 20000 in
set_option maxHeartbeats 4000000 in
theorem c_X12_isWriter {k0 : K0} {G : Gx} {Qp : Option AV → Fx → Hp → Prop} (hM : MB (KM k0 0 0 Qp) G M_X12_isWriter 2) (v1 : Int) (h : Hp)   {P : Int → Prop} (hq : ∀ z : Int, P z → Qp (some (aI z)) FN h) (hh : OK (X12_isWriter v1 h) P) : ATk (KM k0 0 0 Qp) FN 0 0 M_X12_isWriter 0 [some (aR 150), some (aI v1)] [] h := by
  unfold X12_isWriter at hh
  refine A_blk hM.1 8 (lv1 := [some (aR 150), some (aI v1)]) (s1 := [aL (w32 ((h 150 4) - 1)), aL 0, aL (w32 v1)]) (h1 := h) rfl ?_
  refine A_callS hM rfl rfl (mem_GW 1879 (by decide +kernel) rfl) mi_X12_lies ms_X12_lies (As := [aL (w32 v1), aL 0, aL (w32 ((h 150 4) - 1))]) (rest := []) (ct_X12_lies (w32 v1) 0 (w32 ((h 150 4) - 1)) h (OK_bind hh)) (by decide) ⟨Nat.zero_le _, Nat.zero_le _⟩ rfl rfl (Nat.le_of_ble_eq_true rfl) (fun r F' h' hq1 => ?_)
  obtain ⟨rfl, r1, rfl, e9, hh⟩ := hq1
  subst h'
  obtain ⟨hz2, hh⟩ := OK_g hh
  exact A_retz hM.1 rfl rfl rfl hz2 (hq r1 hh)

set_option maxRecDepth 20000 in
set_option maxHeartbeats 4000000 in
theorem ct_X12_isWriter {G : Gx} (v1 : Int) (h : Hp)   {P : Int → Prop} (hh : OK (X12_isWriter v1 h) P) : CT G yX12_isWriter M_X12_isWriter 2 0 0 FN h [aR 150, aI v1] (fun r F' h' => F' = FN ∧ ∃ z, r = some (aI z) ∧ h' = h ∧ P z) :=
  CT.of (by decide +kernel) rfl (Nat.le_of_ble_eq_true rfl) k_X12_isWriter fun k0 _ _ hM => c_X12_isWriter hM v1 h (fun z hz => ⟨rfl, z, rfl, rfl, hz⟩) hh

theorem mi_X12_isBit : MIv yX12_isBit M_X12_isBit 1 := ⟨⟨(mem_GW 2089 (by decide +kernel) rfl), (mem_GW 135 (by decide +kernel) rfl), by decide +kernel, by decide +kernel, by decide +kernel, by decide⟩, (mem_GW 2088 (by decide +kernel) rfl), (mem_GW 88 (by decide +kernel) rfl)⟩
set_option maxRecDepth 20000 in
set_option maxHeartbeats 4000000 in
theorem c_X12_isBit {k0 : K0} {G : Gx} {Qp : Option AV → Fx → Hp → Prop} (hM : MB (KM k0 0 0 Qp) G M_X12_isBit 2) (v1 : Int) (h : Hp)   {P : Int → Prop} (hq : ∀ z : Int, P z → Qp (some (aI z)) FN h) (hh : OK (X12_isBit v1 h) P) : ATk (KM k0 0 0 Qp) FN 0 0 M_X12_isBit 0 [some (aR 150), some (aI v1)] [] h := by
  unfold X12_isBit at hh
  refine A_blk hM.1 8 (lv1 := [some (aR 150), some (aI v1)]) (s1 := [aL (w32 ((h 150 5) - 1)), aL 0, aL (w32 v1)]) (h1 := h) rfl ?_
  refine A_callS hM rfl rfl (mem_GW 1879 (by decide +kernel) rfl) mi_X12_lies ms_X12_lies (As := [aL (w32 v1), aL 0, aL (w32 ((h 150 5) - 1))]) (rest := []) (ct_X12_lies (w32 v1) 0 (w32 ((h 150 5) - 1)) h (OK_bind hh)) (by decide) ⟨Nat.zero_le _, Nat.zero_le _⟩ rfl rfl (Nat.le_of_ble_eq_true rfl) (fun r F' h' hq1 => ?_)
  obtain ⟨rfl, r1, rfl, e9, hh⟩ := hq1
  subst h'
  obtain ⟨hz2, hh⟩ := OK_g hh
  exact A_retz hM.1 rfl rfl rfl hz2 (hq r1 hh)

set_option maxRecDepth 20000 in
set_option maxHeartbeats 4000000 in
theorem ct_X12_isBit {G : Gx} (v1 : Int) (h : Hp)   {P : Int → Prop} (hh : OK (X12_isBit v1 h) P) : CT G yX12_isBit M_X12_isBit 2 0 0 FN h [aR 150, aI v1] (fun r F' h' => F' = FN ∧ ∃ z, r = some (aI z) ∧ h' = h ∧ P z) :=
  CT.of (by decide +kernel) rfl (Nat.le_of_ble_eq_true rfl) k_X12_isBit fun k0 _ _ hM => c_X12_isBit hM v1 h (fun z hz => ⟨rfl, z, rfl, rfl, hz⟩) hh

theorem mi_X12_author : MIv yX12_author M_X12_author 2 := ⟨⟨(mem_GW 1877 (by decide +kernel) rfl), (mem_GW 135 (by decide +kernel) rfl), by decide +kernel, by decide +kernel, by decide +kernel, by decide⟩, (mem_GW 1875 (by decide +kernel) rfl), (mem_GW 1876 (by decide +kernel) rfl)⟩
set_option maxRecDepth 20000 in
set_option maxHeartbeats 4000000 in
theorem c_X12_author {k0 : K0} {G : Gx} {Qp : Option AV → Fx → Hp → Prop} (hM : MB (KM k0 0 0 Qp) G M_X12_author 2) (v1 : Int) (v2 : Int) (h : Hp)   {P : (Int × Hp) → Prop} (hq : ∀ z : Int × Hp, P z → Qp (some (aI z.1)) FN z.2) (hh : OK (X12_author v1 v2 h) P) : ATk (KM k0 0 0 Qp) FN 0 0 M_X12_author 0 [some (aR 150), some (aI v1), some (aI v2)] [] h := by
  unfold X12_author at hh
  refine A_blk hM.1 3 (lv1 := [some (aR 150), some (aI v1), some (aI v2)]) (s1 := [aI 8, aI (h 150 2)]) (h1 := h) rfl ?_
  refine A_icmp hM.1 rfl rfl (fun hc => ?_) (fun hc => ?_)
  · replace hh := OK_t hh hc
    refine A_blk hM.1 1 (lv1 := [some (aR 150), some (aI v1), some (aI v2)]) (s1 := [aI (-1)]) (h1 := h) rfl ?_
    exact A_reti hM.1 rfl rfl rfl (hq ((-1), h) hh)
  · replace hh := OK_f hh hc
    refine A_blk hM.1 4 (lv1 := [some (aR 150), some (aI v1), some (aI v2)]) (s1 := [aL 999, aL 0, aL (w32 v1)]) (h1 := h) rfl ?_
    refine A_callS hM rfl rfl (mem_GW 1879 (by decide +kernel) rfl) mi_X12_lies ms_X12_lies (As := [aL (w32 v1), aL 0, aL 999]) (rest := []) (ct_X12_lies (w32 v1) 0 999 h (OK_bind hh)) (by decide) ⟨Nat.zero_le _, Nat.zero_le _⟩ rfl rfl (Nat.le_of_ble_eq_true rfl) (fun r F' h' hq1 => ?_)
    obtain ⟨rfl, r1, rfl, e9, hh⟩ := hq1
    subst h'
    refine A_ifc hM.1 rfl rfl (fun hc => ?_) (fun hc => ?_)
    · replace hh := OK_t hh hc
      refine A_blk hM.1 1 (lv1 := [some (aR 150), some (aI v1), some (aI v2)]) (s1 := [aI (-1)]) (h1 := h) rfl ?_
      exact A_reti hM.1 rfl rfl rfl (hq ((-1), h) hh)
    · replace hh := OK_f hh hc
      refine A_blk hM.1 4 (lv1 := [some (aR 150), some (aI v1), some (aI v2)]) (s1 := [aL 100, aL 1, aL (w32 v2)]) (h1 := h) rfl ?_
      refine A_callS hM rfl rfl (mem_GW 1879 (by decide +kernel) rfl) mi_X12_lies ms_X12_lies (As := [aL (w32 v2), aL 1, aL 100]) (rest := []) (ct_X12_lies (w32 v2) 1 100 h (OK_bind hh)) (by decide) ⟨Nat.zero_le _, Nat.zero_le _⟩ rfl rfl (Nat.le_of_ble_eq_true rfl) (fun r F' h' hq1 => ?_)
      obtain ⟨rfl, r2, rfl, e9, hh⟩ := hq1
      subst h'
      refine A_ifc hM.1 rfl rfl (fun hc => ?_) (fun hc => ?_)
      · replace hh := OK_t hh hc
        refine A_blk hM.1 5 (lv1 := [some (aR 150), some (aI v1), some (aI v2)]) (s1 := [aI v1, aI (h 150 2), aR 152]) (h1 := h) rfl ?_
        obtain ⟨g3, hh⟩ := OK_g hh
        refine A_ast hM.1 rfl (Or.inl ⟨rfl, rfl, rfl⟩) rfl rfl rfl g3 ?_
        refine A_blk hM.1 5 (lv1 := [some (aR 150), some (aI v1), some (aI v2)]) (s1 := [aI v2, aI (h 150 2), aR 153]) (h1 := setH h 152 ((w32 (h 150 2)).toNat) v1) rfl ?_
        obtain ⟨g4, hh⟩ := OK_g hh
        refine A_ast hM.1 rfl (Or.inl ⟨rfl, rfl, rfl⟩) rfl rfl rfl g4 ?_
        refine A_blk hM.1 10 (lv1 := [some (aR 150), some (aI v1), some (aI v2)]) (s1 := [aI (((h 150 2) + 1) - 1)]) (h1 := setH (setH (setH h 152 ((w32 (h 150 2)).toNat) v1) 153 ((w32 (h 150 2)).toNat) v2) 150 2 ((h 150 2) + 1)) rfl ?_
        exact A_reti hM.1 rfl rfl rfl (hq (((h 150 2) + 1) - 1, setH (setH (setH h 152 ((w32 (h 150 2)).toNat) v1) 153 ((w32 (h 150 2)).toNat) v2) 150 2 ((h 150 2) + 1)) hh)
      · replace hh := OK_f hh hc
        refine A_blk hM.1 1 (lv1 := [some (aR 150), some (aI v1), some (aI v2)]) (s1 := [aI (-1)]) (h1 := h) rfl ?_
        exact A_reti hM.1 rfl rfl rfl (hq ((-1), h) hh)

set_option maxRecDepth 20000 in
set_option maxHeartbeats 4000000 in
theorem ct_X12_author {G : Gx} (v1 : Int) (v2 : Int) (h : Hp)   {P : (Int × Hp) → Prop} (hh : OK (X12_author v1 v2 h) P) : CT G yX12_author M_X12_author 2 0 0 FN h [aR 150, aI v1, aI v2] (fun r F' h' => F' = FN ∧ ∃ z, r = some (aI z.1) ∧ h' = z.2 ∧ P z) :=
  CT.of (by decide +kernel) rfl (Nat.le_of_ble_eq_true rfl) k_X12_author fun k0 _ _ hM => c_X12_author hM v1 v2 h (fun z hz => ⟨rfl, z, rfl, rfl, hz⟩) hh

theorem mi_X12_work : MIv yX12_work M_X12_work 2 := ⟨⟨(mem_GW 1886 (by decide +kernel) rfl), (mem_GW 135 (by decide +kernel) rfl), by decide +kernel, by decide +kernel, by decide +kernel, by decide⟩, (mem_GW 1884 (by decide +kernel) rfl), (mem_GW 1885 (by decide +kernel) rfl)⟩
set_option maxRecDepth 20000 in
set_option maxHeartbeats 4000000 in
theorem c_X12_work {k0 : K0} {G : Gx} {Qp : Option AV → Fx → Hp → Prop} (hM : MB (KM k0 0 0 Qp) G M_X12_work 3) (v1 : Int) (v2 : Int) (h : Hp)   {P : (Int × Hp) → Prop} (hq : ∀ z : Int × Hp, P z → Qp (some (aI z.1)) FN z.2) (hh : OK (X12_work v1 v2 h) P) : ATk (KM k0 0 0 Qp) FN 0 0 M_X12_work 0 [some (aR 150), some (aI v1), some (aI v2)] [] h := by
  unfold X12_work at hh
  refine A_blk hM.1 3 (lv1 := [some (aR 150), some (aI v1), some (aI v2)]) (s1 := [aI 8, aI (h 150 3)]) (h1 := h) rfl ?_
  refine A_icmp hM.1 rfl rfl (fun hc => ?_) (fun hc => ?_)
  · replace hh := OK_t hh hc
    refine A_blk hM.1 1 (lv1 := [some (aR 150), some (aI v1), some (aI v2)]) (s1 := [aI (-1)]) (h1 := h) rfl ?_
    exact A_reti hM.1 rfl rfl rfl (hq ((-1), h) hh)
  · replace hh := OK_f hh hc
    refine A_blk hM.1 2 (lv1 := [some (aR 150), some (aI v1), some (aI v2)]) (s1 := [aI v1, aR 150]) (h1 := h) rfl ?_
    refine A_callV hM rfl rfl (mem_GW 1887 (by decide +kernel) rfl) mi_X12_isAuthor (As := [aI v1]) (rest := []) (ct_X12_isAuthor v1 h (OK_bind hh)) (by decide) ⟨Nat.zero_le _, Nat.zero_le _⟩ rfl rfl (Nat.le_of_ble_eq_true rfl) (by decide) rfl (by decide) rfl (fun r F' h' hq1 => ?_)
    obtain ⟨rfl, r1, rfl, e9, hh⟩ := hq1
    subst h'
    refine A_ifc hM.1 rfl rfl (fun hc => ?_) (fun hc => ?_)
    · replace hh := OK_t hh hc
      refine A_blk hM.1 1 (lv1 := [some (aR 150), some (aI v1), some (aI v2)]) (s1 := [aI (-1)]) (h1 := h) rfl ?_
      exact A_reti hM.1 rfl rfl rfl (hq ((-1), h) hh)
    · replace hh := OK_f hh hc
      refine A_blk hM.1 4 (lv1 := [some (aR 150), some (aI v1), some (aI v2)]) (s1 := [aL 40, aL 1, aL (w32 v2)]) (h1 := h) rfl ?_
      refine A_callS hM rfl rfl (mem_GW 1879 (by decide +kernel) rfl) mi_X12_lies ms_X12_lies (As := [aL (w32 v2), aL 1, aL 40]) (rest := []) (ct_X12_lies (w32 v2) 1 40 h (OK_bind hh)) (by decide) ⟨Nat.zero_le _, Nat.zero_le _⟩ rfl rfl (Nat.le_of_ble_eq_true rfl) (fun r F' h' hq1 => ?_)
      obtain ⟨rfl, r2, rfl, e9, hh⟩ := hq1
      subst h'
      refine A_ifc hM.1 rfl rfl (fun hc => ?_) (fun hc => ?_)
      · replace hh := OK_t hh hc
        refine A_blk hM.1 5 (lv1 := [some (aR 150), some (aI v1), some (aI v2)]) (s1 := [aI v1, aI (h 150 3), aR 154]) (h1 := h) rfl ?_
        obtain ⟨g3, hh⟩ := OK_g hh
        refine A_ast hM.1 rfl (Or.inl ⟨rfl, rfl, rfl⟩) rfl rfl rfl g3 ?_
        refine A_blk hM.1 5 (lv1 := [some (aR 150), some (aI v1), some (aI v2)]) (s1 := [aI v2, aI (h 150 3), aR 155]) (h1 := setH h 154 ((w32 (h 150 3)).toNat) v1) rfl ?_
        obtain ⟨g4, hh⟩ := OK_g hh
        refine A_ast hM.1 rfl (Or.inl ⟨rfl, rfl, rfl⟩) rfl rfl rfl g4 ?_
        refine A_blk hM.1 10 (lv1 := [some (aR 150), some (aI v1), some (aI v2)]) (s1 := [aI (((h 150 3) + 1) - 1)]) (h1 := setH (setH (setH h 154 ((w32 (h 150 3)).toNat) v1) 155 ((w32 (h 150 3)).toNat) v2) 150 3 ((h 150 3) + 1)) rfl ?_
        exact A_reti hM.1 rfl rfl rfl (hq (((h 150 3) + 1) - 1, setH (setH (setH h 154 ((w32 (h 150 3)).toNat) v1) 155 ((w32 (h 150 3)).toNat) v2) 150 3 ((h 150 3) + 1)) hh)
      · replace hh := OK_f hh hc
        refine A_blk hM.1 1 (lv1 := [some (aR 150), some (aI v1), some (aI v2)]) (s1 := [aI (-1)]) (h1 := h) rfl ?_
        exact A_reti hM.1 rfl rfl rfl (hq ((-1), h) hh)

set_option maxRecDepth 20000 in
set_option maxHeartbeats 4000000 in
theorem ct_X12_work {G : Gx} (v1 : Int) (v2 : Int) (h : Hp)   {P : (Int × Hp) → Prop} (hh : OK (X12_work v1 v2 h) P) : CT G yX12_work M_X12_work 3 0 0 FN h [aR 150, aI v1, aI v2] (fun r F' h' => F' = FN ∧ ∃ z, r = some (aI z.1) ∧ h' = z.2 ∧ P z) :=
  CT.of (by decide +kernel) rfl (Nat.le_of_ble_eq_true rfl) k_X12_work fun k0 _ _ hM => c_X12_work hM v1 v2 h (fun z hz => ⟨rfl, z, rfl, rfl, hz⟩) hh

theorem mi_X12_writer : MIv yX12_writer M_X12_writer 1 := ⟨⟨(mem_GW 1895 (by decide +kernel) rfl), (mem_GW 135 (by decide +kernel) rfl), by decide +kernel, by decide +kernel, by decide +kernel, by decide⟩, (mem_GW 1893 (by decide +kernel) rfl), (mem_GW 1894 (by decide +kernel) rfl)⟩
set_option maxRecDepth 20000 in
set_option maxHeartbeats 4000000 in
theorem c_X12_writer {k0 : K0} {G : Gx} {Qp : Option AV → Fx → Hp → Prop} (hM : MB (KM k0 0 0 Qp) G M_X12_writer 2) (v1 : Int) (h : Hp)   {P : (Int × Hp) → Prop} (hq : ∀ z : Int × Hp, P z → Qp (some (aI z.1)) FN z.2) (hh : OK (X12_writer v1 h) P) : ATk (KM k0 0 0 Qp) FN 0 0 M_X12_writer 0 [some (aR 150), some (aI v1)] [] h := by
  unfold X12_writer at hh
  refine A_blk hM.1 3 (lv1 := [some (aR 150), some (aI v1)]) (s1 := [aI 8, aI (h 150 4)]) (h1 := h) rfl ?_
  refine A_icmp hM.1 rfl rfl (fun hc => ?_) (fun hc => ?_)
  · replace hh := OK_t hh hc
    refine A_blk hM.1 1 (lv1 := [some (aR 150), some (aI v1)]) (s1 := [aI (-1)]) (h1 := h) rfl ?_
    exact A_reti hM.1 rfl rfl rfl (hq ((-1), h) hh)
  · replace hh := OK_f hh hc
    refine A_blk hM.1 4 (lv1 := [some (aR 150), some (aI v1)]) (s1 := [aL 999, aL 0, aL (w32 v1)]) (h1 := h) rfl ?_
    refine A_callS hM rfl rfl (mem_GW 1879 (by decide +kernel) rfl) mi_X12_lies ms_X12_lies (As := [aL (w32 v1), aL 0, aL 999]) (rest := []) (ct_X12_lies (w32 v1) 0 999 h (OK_bind hh)) (by decide) ⟨Nat.zero_le _, Nat.zero_le _⟩ rfl rfl (Nat.le_of_ble_eq_true rfl) (fun r F' h' hq1 => ?_)
    obtain ⟨rfl, r1, rfl, e9, hh⟩ := hq1
    subst h'
    refine A_ifc hM.1 rfl rfl (fun hc => ?_) (fun hc => ?_)
    · replace hh := OK_t hh hc
      refine A_blk hM.1 5 (lv1 := [some (aR 150), some (aI v1)]) (s1 := [aI v1, aI (h 150 4), aR 159]) (h1 := h) rfl ?_
      obtain ⟨g2, hh⟩ := OK_g hh
      refine A_ast hM.1 rfl (Or.inl ⟨rfl, rfl, rfl⟩) rfl rfl rfl g2 ?_
      refine A_blk hM.1 10 (lv1 := [some (aR 150), some (aI v1)]) (s1 := [aI (((h 150 4) + 1) - 1)]) (h1 := setH (setH h 159 ((w32 (h 150 4)).toNat) v1) 150 4 ((h 150 4) + 1)) rfl ?_
      exact A_reti hM.1 rfl rfl rfl (hq (((h 150 4) + 1) - 1, setH (setH h 159 ((w32 (h 150 4)).toNat) v1) 150 4 ((h 150 4) + 1)) hh)
    · replace hh := OK_f hh hc
      refine A_blk hM.1 1 (lv1 := [some (aR 150), some (aI v1)]) (s1 := [aI (-1)]) (h1 := h) rfl ?_
      exact A_reti hM.1 rfl rfl rfl (hq ((-1), h) hh)

set_option maxRecDepth 20000 in
set_option maxHeartbeats 4000000 in
theorem ct_X12_writer {G : Gx} (v1 : Int) (h : Hp)   {P : (Int × Hp) → Prop} (hh : OK (X12_writer v1 h) P) : CT G yX12_writer M_X12_writer 2 0 0 FN h [aR 150, aI v1] (fun r F' h' => F' = FN ∧ ∃ z, r = some (aI z.1) ∧ h' = z.2 ∧ P z) :=
  CT.of (by decide +kernel) rfl (Nat.le_of_ble_eq_true rfl) k_X12_writer fun k0 _ _ hM => c_X12_writer hM v1 h (fun z hz => ⟨rfl, z, rfl, rfl, hz⟩) hh

theorem mi_X12_seed : MIv yX12_seed M_X12_seed 1 := ⟨⟨(mem_GW 1899 (by decide +kernel) rfl), (mem_GW 135 (by decide +kernel) rfl), by decide +kernel, by decide +kernel, by decide +kernel, by decide⟩, (mem_GW 1897 (by decide +kernel) rfl), (mem_GW 1898 (by decide +kernel) rfl)⟩
set_option maxRecDepth 20000 in
set_option maxHeartbeats 4000000 in
theorem c_X12_seed {k0 : K0} {G : Gx} {Qp : Option AV → Fx → Hp → Prop} (hM : MB (KM k0 0 0 Qp) G M_X12_seed 2) (v1 : Int) (h : Hp)   {P : (Int × Hp) → Prop} (hq : ∀ z : Int × Hp, P z → Qp (some (aI z.1)) FN z.2) (hh : OK (X12_seed v1 h) P) : ATk (KM k0 0 0 Qp) FN 0 0 M_X12_seed 0 [some (aR 150), some (aI v1)] [] h := by
  unfold X12_seed at hh
  refine A_blk hM.1 4 (lv1 := [some (aR 150), some (aI v1)]) (s1 := [aL 65535, aL 0, aL (w32 v1)]) (h1 := h) rfl ?_
  refine A_callS hM rfl rfl (mem_GW 1879 (by decide +kernel) rfl) mi_X12_lies ms_X12_lies (As := [aL (w32 v1), aL 0, aL 65535]) (rest := []) (ct_X12_lies (w32 v1) 0 65535 h (OK_bind hh)) (by decide) ⟨Nat.zero_le _, Nat.zero_le _⟩ rfl rfl (Nat.le_of_ble_eq_true rfl) (fun r F' h' hq1 => ?_)
  obtain ⟨rfl, r1, rfl, e9, hh⟩ := hq1
  subst h'
  refine A_ifc hM.1 rfl rfl (fun hc => ?_) (fun hc => ?_)
  · replace hh := OK_t hh hc
    refine A_blk hM.1 4 (lv1 := [some (aR 150), some (aI v1)]) (s1 := [aI 1]) (h1 := setH h 150 6 v1) rfl ?_
    exact A_retz hM.1 rfl rfl rfl (by decide) (hq (1, setH h 150 6 v1) hh)
  · replace hh := OK_f hh hc
    refine A_blk hM.1 1 (lv1 := [some (aR 150), some (aI v1)]) (s1 := [aI 0]) (h1 := h) rfl ?_
    exact A_retz hM.1 rfl rfl rfl (by decide) (hq (0, h) hh)

set_option maxRecDepth 20000 in
set_option maxHeartbeats 4000000 in
theorem ct_X12_seed {G : Gx} (v1 : Int) (h : Hp)   {P : (Int × Hp) → Prop} (hh : OK (X12_seed v1 h) P) : CT G yX12_seed M_X12_seed 2 0 0 FN h [aR 150, aI v1] (fun r F' h' => F' = FN ∧ ∃ z, r = some (aI z.1) ∧ h' = z.2 ∧ P z) :=
  CT.of (by decide +kernel) rfl (Nat.le_of_ble_eq_true rfl) k_X12_seed fun k0 _ _ hM => c_X12_seed hM v1 h (fun z hz => ⟨rfl, z, rfl, rfl, hz⟩) hh

theorem mi_X12_push : MIv yX12_push M_X12_push 1 := ⟨⟨(mem_GW 1908 (by decide +kernel) rfl), (mem_GW 135 (by decide +kernel) rfl), by decide +kernel, by decide +kernel, by decide +kernel, by decide⟩, (mem_GW 1907 (by decide +kernel) rfl), (mem_GW 57 (by decide +kernel) rfl)⟩
set_option maxRecDepth 20000 in
set_option maxHeartbeats 4000000 in
theorem c_X12_push_l2 {k0 : K0} {G : Gx} {Qp : Option AV → Fx → Hp → Prop} (hM : MB (KM k0 0 0 Qp) G M_X12_push 1) (v1 : Int) (x : Int × Hp)   {P : ((Int × Hp) ⊕ (Hp)) → Prop} (hin : ∀ y : Int × Hp, P (.inl y) → ATk (KM k0 0 0 Qp) FN 0 0 M_X12_push 2 [some (aR 150), some (aI v1), some (aI y.1)] [] y.2) (hout0 : ∀ y : Hp, P (.inr y) → ATk (KM k0 0 0 Qp) FN 0 0 M_X12_push 21 [none, none, none] [] y) (hh : OK (X12_push_l2 v1 x) P) : ATk (KM k0 0 0 Qp) FN 0 0 M_X12_push 2 [some (aR 150), some (aI v1), some (aI x.1)] [] x.2 := by
  unfold X12_push_l2 at hh
  refine A_blk hM.1 1 (lv1 := [some (aR 150), some (aI v1), some (aI x.1)]) (s1 := [aI x.1]) (h1 := x.2) rfl ?_
  refine A_ifc hM.1 rfl rfl (fun hc => ?_) (fun hc => ?_)
  · replace hh := OK_t hh hc
    refine A_mask [false, false, false] (lv1 := [none, none, none]) rfl ?_
    exact hout0 x.2 hh
  · replace hh := OK_f hh hc
    refine A_blk hM.1 8 (lv1 := [some (aR 150), some (aI v1), some (aI x.1)]) (s1 := [aI (b8 (shr32 v1 x.1)), aI (x.2 150 1), aR 151]) (h1 := x.2) rfl ?_
    obtain ⟨g1, hh⟩ := OK_g hh
    refine A_ast hM.1 rfl (Or.inr (Or.inl ⟨rfl, rfl, rfl⟩)) rfl rfl rfl g1 ?_
    refine A_blk hM.1 7 (lv1 := [some (aR 150), some (aI v1), some (aI (x.1 + (-8)))]) (s1 := []) (h1 := setH (setH x.2 151 ((w32 (x.2 150 1)).toNat) (b8 (b8 (shr32 v1 x.1)))) 150 1 ((x.2 150 1) + 1)) rfl ?_
    refine A_go hM.1 rfl rfl ?_
    exact hin (x.1 + (-8), setH (setH x.2 151 ((w32 (x.2 150 1)).toNat) (b8 (b8 (shr32 v1 x.1)))) 150 1 ((x.2 150 1) + 1)) hh

set_option maxRecDepth 20000 in
set_option maxHeartbeats 4000000 in
theorem c_X12_push {k0 : K0} {G : Gx} {Qp : Option AV → Fx → Hp → Prop} (hM : MB (KM k0 0 0 Qp) G M_X12_push 1) (v1 : Int) (h : Hp)   {P : Hp → Prop} (hq : ∀ z : Hp, P z → Qp none FN z) (hh : OK (X12_push v1 h) P) : ATk (KM k0 0 0 Qp) FN 0 0 M_X12_push 0 [some (aR 150), some (aI v1), none] [] h := by
  unfold X12_push at hh
  refine A_blk hM.1 2 (lv1 := [some (aR 150), some (aI v1), some (aI 24)]) (s1 := []) (h1 := h) rfl ?_
  refine iter_ok (s := (24, h)) (Gp := fun z => ATk (KM k0 0 0 Qp) FN 0 0 M_X12_push 2 [some (aR 150), some (aI v1), some (aI z.1)] [] z.2) (E := fun z => ATk (KM k0 0 0 Qp) FN 0 0 M_X12_push 21 [none, none, none] [] z) (fun z P1 g1 g2 g3 => c_X12_push_l2 hM v1 z g2 g3 g1) (OK_bind hh) (fun x2 hh => ?_)
  exact A_retv hM.1 rfl rfl rfl (hq x2 hh)

set_option maxRecDepth 20000 in
set_option maxHeartbeats 4000000 in
theorem ct_X12_push {G : Gx} (v1 : Int) (h : Hp)   {P : Hp → Prop} (hh : OK (X12_push v1 h) P) : CT G yX12_push M_X12_push 1 0 0 FN h [aR 150, aI v1] (fun r F' h' => F' = FN ∧ r = none ∧ P h') :=
  CT.of (by decide +kernel) rfl (Nat.le_of_ble_eq_true rfl) k_X12_push fun k0 _ _ hM => c_X12_push hM v1 h (fun z hz => ⟨rfl, rfl, hz⟩) hh

theorem mi_X12_feed : MIv yX12_feed M_X12_feed 5 := ⟨⟨(mem_GW 1904 (by decide +kernel) rfl), (mem_GW 135 (by decide +kernel) rfl), by decide +kernel, by decide +kernel, by decide +kernel, by decide⟩, (mem_GW 1902 (by decide +kernel) rfl), (mem_GW 1903 (by decide +kernel) rfl)⟩
set_option maxRecDepth 20000 in
set_option maxHeartbeats 4000000 in
theorem c_X12_feed {k0 : K0} {G : Gx} {Qp : Option AV → Fx → Hp → Prop} (hM : MB (KM k0 0 0 Qp) G M_X12_feed 2) (v1 : Int) (v2 : Int) (v3 : Int) (v4 : Int) (v5 : Int) (h : Hp)   {P : (Int × Hp) → Prop} (hq : ∀ z : Int × Hp, P z → Qp (some (aI z.1)) FN z.2) (hh : OK (X12_feed v1 v2 v3 v4 v5 h) P) : ATk (KM k0 0 0 Qp) FN 0 0 M_X12_feed 0 [some (aR 150), some (aI v1), some (aI v2), some (aI v3), some (aI v4), some (aI v5)] [] h := by
  unfold X12_feed at hh
  refine A_blk hM.1 5 (lv1 := [some (aR 150), some (aI v1), some (aI v2), some (aI v3), some (aI v4), some (aI v5)]) (s1 := [aI 200, aI ((h 150 1) + 20)]) (h1 := h) rfl ?_
  refine A_icmp hM.1 rfl rfl (fun hc => ?_) (fun hc => ?_)
  · replace hh := OK_t hh hc
    refine A_blk hM.1 2 (lv1 := [some (aR 150), some (aI v1), some (aI v2), some (aI v3), some (aI v4), some (aI v5)]) (s1 := [aI v1, aR 150]) (h1 := h) rfl ?_
    refine A_callV hM rfl rfl (mem_GW 1905 (by decide +kernel) rfl) mi_X12_push (As := [aI v1]) (rest := []) (ct_X12_push v1 h (OK_bind hh)) (by decide) ⟨Nat.zero_le _, Nat.zero_le _⟩ rfl rfl (Nat.le_of_ble_eq_true rfl) (by decide) rfl (by decide) rfl (fun r F' h' hq1 => ?_)
    obtain ⟨rfl, rfl, hh⟩ := hq1
    obtain ⟨r1, rfl⟩ : ∃ z, z = h' := ⟨_, rfl⟩
    refine A_blk hM.1 2 (lv1 := [some (aR 150), some (aI v1), some (aI v2), some (aI v3), some (aI v4), some (aI v5)]) (s1 := [aI v2, aR 150]) (h1 := r1) rfl ?_
    refine A_callV hM rfl rfl (mem_GW 1905 (by decide +kernel) rfl) mi_X12_push (As := [aI v2]) (rest := []) (ct_X12_push v2 r1 (OK_bind hh)) (by decide) ⟨Nat.zero_le _, Nat.zero_le _⟩ rfl rfl (Nat.le_of_ble_eq_true rfl) (by decide) rfl (by decide) rfl (fun r F' h' hq1 => ?_)
    obtain ⟨rfl, rfl, hh⟩ := hq1
    obtain ⟨r2, rfl⟩ : ∃ z, z = h' := ⟨_, rfl⟩
    refine A_blk hM.1 2 (lv1 := [some (aR 150), some (aI v1), some (aI v2), some (aI v3), some (aI v4), some (aI v5)]) (s1 := [aI v3, aR 150]) (h1 := r2) rfl ?_
    refine A_callV hM rfl rfl (mem_GW 1905 (by decide +kernel) rfl) mi_X12_push (As := [aI v3]) (rest := []) (ct_X12_push v3 r2 (OK_bind hh)) (by decide) ⟨Nat.zero_le _, Nat.zero_le _⟩ rfl rfl (Nat.le_of_ble_eq_true rfl) (by decide) rfl (by decide) rfl (fun r F' h' hq1 => ?_)
    obtain ⟨rfl, rfl, hh⟩ := hq1
    obtain ⟨r3, rfl⟩ : ∃ z, z = h' := ⟨_, rfl⟩
    refine A_blk hM.1 2 (lv1 := [some (aR 150), some (aI v1), some (aI v2), some (aI v3), some (aI v4), some (aI v5)]) (s1 := [aI v4, aR 150]) (h1 := r3) rfl ?_
    refine A_callV hM rfl rfl (mem_GW 1905 (by decide +kernel) rfl) mi_X12_push (As := [aI v4]) (rest := []) (ct_X12_push v4 r3 (OK_bind hh)) (by decide) ⟨Nat.zero_le _, Nat.zero_le _⟩ rfl rfl (Nat.le_of_ble_eq_true rfl) (by decide) rfl (by decide) rfl (fun r F' h' hq1 => ?_)
    obtain ⟨rfl, rfl, hh⟩ := hq1
    obtain ⟨r4, rfl⟩ : ∃ z, z = h' := ⟨_, rfl⟩
    refine A_blk hM.1 2 (lv1 := [some (aR 150), some (aI v1), some (aI v2), some (aI v3), some (aI v4), some (aI v5)]) (s1 := [aI v5, aR 150]) (h1 := r4) rfl ?_
    refine A_callV hM rfl rfl (mem_GW 1905 (by decide +kernel) rfl) mi_X12_push (As := [aI v5]) (rest := []) (ct_X12_push v5 r4 (OK_bind hh)) (by decide) ⟨Nat.zero_le _, Nat.zero_le _⟩ rfl rfl (Nat.le_of_ble_eq_true rfl) (by decide) rfl (by decide) rfl (fun r F' h' hq1 => ?_)
    obtain ⟨rfl, rfl, hh⟩ := hq1
    obtain ⟨r5, rfl⟩ : ∃ z, z = h' := ⟨_, rfl⟩
    refine A_blk hM.1 2 (lv1 := [some (aR 150), some (aI v1), some (aI v2), some (aI v3), some (aI v4), some (aI v5)]) (s1 := [aI (r5 150 1)]) (h1 := r5) rfl ?_
    exact A_reti hM.1 rfl rfl rfl (hq (r5 150 1, r5) hh)
  · replace hh := OK_f hh hc
    refine A_blk hM.1 1 (lv1 := [some (aR 150), some (aI v1), some (aI v2), some (aI v3), some (aI v4), some (aI v5)]) (s1 := [aI (-1)]) (h1 := h) rfl ?_
    exact A_reti hM.1 rfl rfl rfl (hq ((-1), h) hh)

set_option maxRecDepth 20000 in
set_option maxHeartbeats 4000000 in
theorem ct_X12_feed {G : Gx} (v1 : Int) (v2 : Int) (v3 : Int) (v4 : Int) (v5 : Int) (h : Hp)   {P : (Int × Hp) → Prop} (hh : OK (X12_feed v1 v2 v3 v4 v5 h) P) : CT G yX12_feed M_X12_feed 2 0 0 FN h [aR 150, aI v1, aI v2, aI v3, aI v4, aI v5] (fun r F' h' => F' = FN ∧ ∃ z, r = some (aI z.1) ∧ h' = z.2 ∧ P z) :=
  CT.of (by decide +kernel) rfl (Nat.le_of_ble_eq_true rfl) k_X12_feed fun k0 _ _ hM => c_X12_feed hM v1 v2 v3 v4 v5 h (fun z hz => ⟨rfl, z, rfl, rfl, hz⟩) hh

theorem mi_X12_left : MIv yX12_left M_X12_left 2 := ⟨⟨(mem_GW 1912 (by decide +kernel) rfl), (mem_GW 135 (by decide +kernel) rfl), by decide +kernel, by decide +kernel, by decide +kernel, by decide⟩, (mem_GW 1910 (by decide +kernel) rfl), (mem_GW 1911 (by decide +kernel) rfl)⟩
set_option maxRecDepth 20000 in
set_option maxHeartbeats 4000000 in
theorem c_X12_left_l30 {k0 : K0} {G : Gx} {Qp : Option AV → Fx → Hp → Prop} (hM : MB (KM k0 0 0 Qp) G M_X12_left 3) (v1 : Int) (v2 : Int) (x : Int × Int × Hp)   {P : ((Int × Int × Hp) ⊕ ((Hp) ⊕ (Hp))) → Prop} (hin : ∀ y : Int × Int × Hp, P (.inl y) → ATk (KM k0 0 0 Qp) FN 0 0 M_X12_left 30 [some (aR 150), some (aI v1), some (aI v2), some (aI y.1), some (aI y.2.1)] [] y.2.2) (hout0 : ∀ y : Hp, P (.inr (.inl y)) → ATk (KM k0 0 0 Qp) FN 0 0 M_X12_left 62 [none, none, none, none, none] [] y) (hout1 : ∀ y : Hp, P (.inr (.inr y)) → ATk (KM k0 0 0 Qp) FN 0 0 M_X12_left 98 [some (aR 150), some (aI v1), some (aI v2), none, none] [] y) (hh : OK (X12_left_l30 v1 v2 x) P) : ATk (KM k0 0 0 Qp) FN 0 0 M_X12_left 30 [some (aR 150), some (aI v1), some (aI v2), some (aI x.1), some (aI x.2.1)] [] x.2.2 := by
  unfold X12_left_l30 at hh
  refine A_blk hM.1 2 (lv1 := [some (aR 150), some (aI v1), some (aI v2), some (aI x.1), some (aI x.2.1)]) (s1 := [aI v2, aI x.2.1]) (h1 := x.2.2) rfl ?_
  refine A_icmp hM.1 rfl rfl (fun hc => ?_) (fun hc => ?_)
  · replace hh := OK_t hh hc
    refine A_mask [true, true, true, false, false] (lv1 := [some (aR 150), some (aI v1), some (aI v2), none, none]) rfl ?_
    exact hout1 x.2.2 hh
  · replace hh := OK_f hh hc
    refine A_blk hM.1 5 (lv1 := [some (aR 150), some (aI v1), some (aI v2), some (aI x.1), some (aI x.2.1)]) (s1 := [aI (2 * x.2.1), aR 151]) (h1 := x.2.2) rfl ?_
    obtain ⟨g4, hh⟩ := OK_g hh
    refine A_ald hM.1 rfl (Or.inr ⟨rfl, (Or.inl rfl)⟩) rfl (by decide) rfl g4 ?_
    refine A_blk hM.1 3 (lv1 := [some (aR 150), some (aI v1), some (aI v2), some (aI x.1), some (aI x.2.1)]) (s1 := [aL 63, aL 0, aL (w32 (x.2.2 151 ((w32 (2 * x.2.1)).toNat)))]) (h1 := x.2.2) rfl ?_
    refine A_callS hM rfl rfl (mem_GW 1879 (by decide +kernel) rfl) mi_X12_lies ms_X12_lies (As := [aL (w32 (x.2.2 151 ((w32 (2 * x.2.1)).toNat))), aL 0, aL 63]) (rest := []) (ct_X12_lies (w32 (x.2.2 151 ((w32 (2 * x.2.1)).toNat))) 0 63 x.2.2 (OK_bind hh)) (by decide) ⟨Nat.zero_le _, Nat.zero_le _⟩ rfl rfl (Nat.le_of_ble_eq_true rfl) (fun r F' h' hq1 => ?_)
    obtain ⟨rfl, r5, rfl, e9, hh⟩ := hq1
    subst h'
    refine A_ifc hM.1 rfl rfl (fun hc => ?_) (fun hc => ?_)
    · replace hh := OK_t hh hc
      refine A_mask [false, false, false, false, false] (lv1 := [none, none, none, none, none]) rfl ?_
      exact hout0 x.2.2 hh
    · replace hh := OK_f hh hc
      refine A_blk hM.1 7 (lv1 := [some (aR 150), some (aI v1), some (aI v2), some (aI x.1), some (aI x.2.1)]) (s1 := [aI ((2 * x.2.1) + 1), aR 151]) (h1 := x.2.2) rfl ?_
      obtain ⟨g6, hh⟩ := OK_g hh
      refine A_ald hM.1 rfl (Or.inr ⟨rfl, (Or.inl rfl)⟩) rfl (by decide) rfl g6 ?_
      refine A_blk hM.1 6 (lv1 := [some (aR 150), some (aI v1), some (aI v2), some (aI x.1), some (aI x.2.1)]) (s1 := [aI v1, aR 155, aL (w32 x.1), aL (w32 (x.2.2 151 ((w32 ((2 * x.2.1) + 1)).toNat)))]) (h1 := x.2.2) rfl ?_
      obtain ⟨g7, hh⟩ := OK_g hh
      refine A_ald hM.1 rfl (Or.inl ⟨rfl, rfl⟩) rfl (by decide) rfl g7 ?_
      refine A_blk hM.1 1 (lv1 := [some (aR 150), some (aI v1), some (aI v2), some (aI x.1), some (aI x.2.1)]) (s1 := [aL (w32 (x.2.2 155 ((w32 v1).toNat))), aL (w32 x.1), aL (w32 (x.2.2 151 ((w32 ((2 * x.2.1) + 1)).toNat)))]) (h1 := x.2.2) rfl ?_
      refine A_callS hM rfl rfl (mem_GW 1879 (by decide +kernel) rfl) mi_X12_lies ms_X12_lies (As := [aL (w32 (x.2.2 151 ((w32 ((2 * x.2.1) + 1)).toNat))), aL (w32 x.1), aL (w32 (x.2.2 155 ((w32 v1).toNat)))]) (rest := []) (ct_X12_lies (w32 (x.2.2 151 ((w32 ((2 * x.2.1) + 1)).toNat))) (w32 x.1) (w32 (x.2.2 155 ((w32 v1).toNat))) x.2.2 (OK_bind hh)) (by decide) ⟨Nat.zero_le _, Nat.zero_le _⟩ rfl rfl (Nat.le_of_ble_eq_true rfl) (fun r F' h' hq1 => ?_)
      obtain ⟨rfl, r8, rfl, e9, hh⟩ := hq1
      subst h'
      refine A_ifc hM.1 rfl rfl (fun hc => ?_) (fun hc => ?_)
      · replace hh := OK_t hh hc
        refine A_blk hM.1 7 (lv1 := [some (aR 150), some (aI v1), some (aI v2), some (aI x.1), some (aI x.2.1)]) (s1 := [aI ((2 * x.2.1) + 1), aR 151]) (h1 := x.2.2) rfl ?_
        obtain ⟨g9, hh⟩ := OK_g hh
        refine A_ald hM.1 rfl (Or.inr ⟨rfl, (Or.inl rfl)⟩) rfl (by decide) rfl g9 ?_
        refine A_blk hM.1 13 (lv1 := [some (aR 150), some (aI v1), some (aI v2), some (aI (x.2.2 151 ((w32 ((2 * x.2.1) + 1)).toNat))), some (aI x.2.1)]) (s1 := [aI (2 * x.2.1), aR 151, aI ((40 * v1) + x.2.1), aR 157]) (h1 := x.2.2) rfl ?_
        obtain ⟨g10, hh⟩ := OK_g hh
        refine A_ald hM.1 rfl (Or.inr ⟨rfl, (Or.inl rfl)⟩) rfl (by decide) rfl g10 ?_
        obtain ⟨g11, hh⟩ := OK_g hh
        refine A_ast hM.1 rfl (Or.inl ⟨rfl, rfl, rfl⟩) rfl rfl rfl g11 ?_
        refine A_blk hM.1 8 (lv1 := [some (aR 150), some (aI v1), some (aI v2), some (aI (x.2.2 151 ((w32 ((2 * x.2.1) + 1)).toNat))), some (aI x.2.1)]) (s1 := [aI (x.2.2 151 ((w32 ((2 * x.2.1) + 1)).toNat)), aI ((40 * v1) + x.2.1), aR 158]) (h1 := setH x.2.2 157 ((w32 ((40 * v1) + x.2.1)).toNat) (x.2.2 151 ((w32 (2 * x.2.1)).toNat))) rfl ?_
        obtain ⟨g12, hh⟩ := OK_g hh
        refine A_ast hM.1 rfl (Or.inl ⟨rfl, rfl, rfl⟩) rfl rfl rfl g12 ?_
        refine A_blk hM.1 1 (lv1 := [some (aR 150), some (aI v1), some (aI v2), some (aI (x.2.2 151 ((w32 ((2 * x.2.1) + 1)).toNat))), some (aI (x.2.1 + 1))]) (s1 := []) (h1 := setH (setH x.2.2 157 ((w32 ((40 * v1) + x.2.1)).toNat) (x.2.2 151 ((w32 (2 * x.2.1)).toNat))) 158 ((w32 ((40 * v1) + x.2.1)).toNat) (x.2.2 151 ((w32 ((2 * x.2.1) + 1)).toNat))) rfl ?_
        refine A_go hM.1 rfl rfl ?_
        exact hin (x.2.2 151 ((w32 ((2 * x.2.1) + 1)).toNat), x.2.1 + 1, setH (setH x.2.2 157 ((w32 ((40 * v1) + x.2.1)).toNat) (x.2.2 151 ((w32 (2 * x.2.1)).toNat))) 158 ((w32 ((40 * v1) + x.2.1)).toNat) (x.2.2 151 ((w32 ((2 * x.2.1) + 1)).toNat))) hh
      · replace hh := OK_f hh hc
        refine A_mask [false, false, false, false, false] (lv1 := [none, none, none, none, none]) rfl ?_
        exact hout0 x.2.2 hh

set_option maxRecDepth 20000 in
set_option maxHeartbeats 4000000 in
theorem c_X12_left {k0 : K0} {G : Gx} {Qp : Option AV → Fx → Hp → Prop} (hM : MB (KM k0 0 0 Qp) G M_X12_left 3) (v1 : Int) (v2 : Int) (h : Hp)   {P : (Int × Hp) → Prop} (hq : ∀ z : Int × Hp, P z → Qp (some (aI z.1)) FN z.2) (hh : OK (X12_left v1 v2 h) P) : ATk (KM k0 0 0 Qp) FN 0 0 M_X12_left 0 [some (aR 150), some (aI v1), some (aI v2), none, none] [] h := by
  unfold X12_left at hh
  refine A_blk hM.1 2 (lv1 := [some (aR 150), some (aI v1), some (aI v2), none, none]) (s1 := [aI v1, aR 150]) (h1 := h) rfl ?_
  refine A_callV hM rfl rfl (mem_GW 1913 (by decide +kernel) rfl) mi_X12_isWork (As := [aI v1]) (rest := []) (ct_X12_isWork v1 h (OK_bind hh)) (by decide) ⟨Nat.zero_le _, Nat.zero_le _⟩ rfl rfl (Nat.le_of_ble_eq_true rfl) (by decide) rfl (by decide) rfl (fun r F' h' hq1 => ?_)
  obtain ⟨rfl, r1, rfl, e9, hh⟩ := hq1
  subst h'
  refine A_ifc hM.1 rfl rfl (fun hc => ?_) (fun hc => ?_)
  · replace hh := OK_t hh hc
    refine A_blk hM.1 1 (lv1 := [some (aR 150), some (aI v1), some (aI v2), none, none]) (s1 := [aI 0]) (h1 := h) rfl ?_
    exact A_retz hM.1 rfl rfl rfl (by decide) (hq (0, h) hh)
  · replace hh := OK_f hh hc
    refine A_blk hM.1 3 (lv1 := [some (aR 150), some (aI v1), some (aI v2), none, none]) (s1 := [aI v1, aR 156]) (h1 := h) rfl ?_
    obtain ⟨g2, hh⟩ := OK_g hh
    refine A_ald hM.1 rfl (Or.inl ⟨rfl, rfl⟩) rfl (by decide) rfl g2 ?_
    refine A_ifc hM.1 rfl rfl (fun hc => ?_) (fun hc => ?_)
    · replace hh := OK_t hh hc
      refine A_blk hM.1 1 (lv1 := [some (aR 150), some (aI v1), some (aI v2), none, none]) (s1 := [aI 0]) (h1 := h) rfl ?_
      exact A_retz hM.1 rfl rfl rfl (by decide) (hq (0, h) hh)
    · replace hh := OK_f hh hc
      refine A_blk hM.1 4 (lv1 := [some (aR 150), some (aI v1), some (aI v2), none, none]) (s1 := [aL 40, aL 1, aL (w32 v2)]) (h1 := h) rfl ?_
      refine A_callS hM rfl rfl (mem_GW 1879 (by decide +kernel) rfl) mi_X12_lies ms_X12_lies (As := [aL (w32 v2), aL 1, aL 40]) (rest := []) (ct_X12_lies (w32 v2) 1 40 h (OK_bind hh)) (by decide) ⟨Nat.zero_le _, Nat.zero_le _⟩ rfl rfl (Nat.le_of_ble_eq_true rfl) (fun r F' h' hq1 => ?_)
      obtain ⟨rfl, r3, rfl, e9, hh⟩ := hq1
      subst h'
      refine A_ifc hM.1 rfl rfl (fun hc => ?_) (fun hc => ?_)
      · replace hh := OK_t hh hc
        refine A_blk hM.1 1 (lv1 := [some (aR 150), some (aI v1), some (aI v2), none, none]) (s1 := [aI 0]) (h1 := h) rfl ?_
        exact A_retz hM.1 rfl rfl rfl (by decide) (hq (0, h) hh)
      · replace hh := OK_f hh hc
        refine A_blk hM.1 5 (lv1 := [some (aR 150), some (aI v1), some (aI v2), none, none]) (s1 := [aI (h 150 1), aI (2 * v2)]) (h1 := h) rfl ?_
        refine A_icmp hM.1 rfl rfl (fun hc => ?_) (fun hc => ?_)
        · replace hh := OK_t hh hc
          refine A_blk hM.1 7 (lv1 := [some (aR 150), some (aI v1), some (aI v2), some (aI 1), some (aI 0)]) (s1 := []) (h1 := setH h 150 1 0) rfl ?_
          refine iter_ok (s := (1, 0, setH h 150 1 0)) (Gp := fun z => ATk (KM k0 0 0 Qp) FN 0 0 M_X12_left 30 [some (aR 150), some (aI v1), some (aI v2), some (aI z.1), some (aI z.2.1)] [] z.2.2) (E := fun z => (∀ y, z = (.inl y) → ATk (KM k0 0 0 Qp) FN 0 0 M_X12_left 62 [none, none, none, none, none] [] y) ∧ (∀ y, z = (.inr y) → ATk (KM k0 0 0 Qp) FN 0 0 M_X12_left 98 [some (aR 150), some (aI v1), some (aI v2), none, none] [] y)) (fun z P1 g1 g2 g3 => c_X12_left_l30 hM v1 v2 z g2 (fun y hy => (g3 (.inl y) hy).1 y rfl) (fun y hy => (g3 (.inr y) hy).2 y rfl) g1) (OK_bind hh) (fun x13 hh => ?_)
          refine ⟨fun y e => ?_, fun y e => ?_⟩
          · obtain ⟨y14, rfl⟩ : ∃ z, z = y := ⟨_, rfl⟩
            subst e
            refine A_blk hM.1 1 (lv1 := [none, none, none, none, none]) (s1 := [aI 0]) (h1 := y14) rfl ?_
            exact A_retz hM.1 rfl rfl rfl (by decide) (hq (0, y14) hh)
          · obtain ⟨y15, rfl⟩ : ∃ z, z = y := ⟨_, rfl⟩
            subst e
            refine A_blk hM.1 4 (lv1 := [some (aR 150), some (aI v1), some (aI v2), none, none]) (s1 := [aI v2, aI v1, aR 156]) (h1 := y15) rfl ?_
            obtain ⟨g16, hh⟩ := OK_g hh
            refine A_ast hM.1 rfl (Or.inl ⟨rfl, rfl, rfl⟩) rfl rfl rfl g16 ?_
            refine A_blk hM.1 1 (lv1 := [some (aR 150), some (aI v1), some (aI v2), none, none]) (s1 := [aI 1]) (h1 := setH y15 156 ((w32 v1).toNat) v2) rfl ?_
            exact A_retz hM.1 rfl rfl rfl (by decide) (hq (1, setH y15 156 ((w32 v1).toNat) v2) hh)
        · replace hh := OK_f hh hc
          refine A_blk hM.1 1 (lv1 := [some (aR 150), some (aI v1), some (aI v2), none, none]) (s1 := [aI 0]) (h1 := h) rfl ?_
          exact A_retz hM.1 rfl rfl rfl (by decide) (hq (0, h) hh)

set_option maxRecDepth 20000 in
set_option maxHeartbeats 4000000 in
theorem ct_X12_left {G : Gx} (v1 : Int) (v2 : Int) (h : Hp)   {P : (Int × Hp) → Prop} (hh : OK (X12_left v1 v2 h) P) : CT G yX12_left M_X12_left 3 0 0 FN h [aR 150, aI v1, aI v2] (fun r F' h' => F' = FN ∧ ∃ z, r = some (aI z.1) ∧ h' = z.2 ∧ P z) :=
  CT.of (by decide +kernel) rfl (Nat.le_of_ble_eq_true rfl) k_X12_left fun k0 _ _ hM => c_X12_left hM v1 v2 h (fun z hz => ⟨rfl, z, rfl, rfl, hz⟩) hh

theorem mi_X12_comes : MIv yX12_comes M_X12_comes 5 := ⟨⟨(mem_GW 1931 (by decide +kernel) rfl), (mem_GW 135 (by decide +kernel) rfl), by decide +kernel, by decide +kernel, by decide +kernel, by decide⟩, (mem_GW 1930 (by decide +kernel) rfl), (mem_GW 60 (by decide +kernel) rfl)⟩
set_option maxRecDepth 20000 in
set_option maxHeartbeats 4000000 in
theorem c_X12_comes {k0 : K0} {G : Gx} {Qp : Option AV → Fx → Hp → Prop} (hM : MB (KM k0 0 0 Qp) G M_X12_comes 1) (v1 : Int) (v2 : Int) (v3 : Int) (v4 : Int) (v5 : Int) (h : Hp)   {P : Hp → Prop} (hq : ∀ z : Hp, P z → Qp none FN z) (hh : OK (X12_comes v1 v2 v3 v4 v5 h) P) : ATk (KM k0 0 0 Qp) FN 0 0 M_X12_comes 0 [some (aR 150), some (aI v1), some (aI v2), some (aI v3), some (aI v4), some (aI v5)] [] h := by
  unfold X12_comes at hh
  refine A_blk hM.1 5 (lv1 := [some (aR 150), some (aI v1), some (aI v2), some (aI v3), some (aI v4), some (aI v5)]) (s1 := [aI v1, aI (h 150 5), aR 160]) (h1 := h) rfl ?_
  obtain ⟨g1, hh⟩ := OK_g hh
  refine A_ast hM.1 rfl (Or.inl ⟨rfl, rfl, rfl⟩) rfl rfl rfl g1 ?_
  refine A_blk hM.1 5 (lv1 := [some (aR 150), some (aI v1), some (aI v2), some (aI v3), some (aI v4), some (aI v5)]) (s1 := [aI v2, aI (h 150 5), aR 161]) (h1 := setH h 160 ((w32 (h 150 5)).toNat) v1) rfl ?_
  obtain ⟨g2, hh⟩ := OK_g hh
  refine A_ast hM.1 rfl (Or.inl ⟨rfl, rfl, rfl⟩) rfl rfl rfl g2 ?_
  refine A_blk hM.1 5 (lv1 := [some (aR 150), some (aI v1), some (aI v2), some (aI v3), some (aI v4), some (aI v5)]) (s1 := [aI v3, aI (h 150 5), aR 162]) (h1 := setH (setH h 160 ((w32 (h 150 5)).toNat) v1) 161 ((w32 (h 150 5)).toNat) v2) rfl ?_
  obtain ⟨g3, hh⟩ := OK_g hh
  refine A_ast hM.1 rfl (Or.inl ⟨rfl, rfl, rfl⟩) rfl rfl rfl g3 ?_
  refine A_blk hM.1 5 (lv1 := [some (aR 150), some (aI v1), some (aI v2), some (aI v3), some (aI v4), some (aI v5)]) (s1 := [aI v4, aI (h 150 5), aR 163]) (h1 := setH (setH (setH h 160 ((w32 (h 150 5)).toNat) v1) 161 ((w32 (h 150 5)).toNat) v2) 162 ((w32 (h 150 5)).toNat) v3) rfl ?_
  obtain ⟨g4, hh⟩ := OK_g hh
  refine A_ast hM.1 rfl (Or.inl ⟨rfl, rfl, rfl⟩) rfl rfl rfl g4 ?_
  refine A_blk hM.1 5 (lv1 := [some (aR 150), some (aI v1), some (aI v2), some (aI v3), some (aI v4), some (aI v5)]) (s1 := [aI v5, aI (h 150 5), aR 164]) (h1 := setH (setH (setH (setH h 160 ((w32 (h 150 5)).toNat) v1) 161 ((w32 (h 150 5)).toNat) v2) 162 ((w32 (h 150 5)).toNat) v3) 163 ((w32 (h 150 5)).toNat) v4) rfl ?_
  obtain ⟨g5, hh⟩ := OK_g hh
  refine A_ast hM.1 rfl (Or.inl ⟨rfl, rfl, rfl⟩) rfl rfl rfl g5 ?_
  refine A_blk hM.1 6 (lv1 := [some (aR 150), some (aI v1), some (aI v2), some (aI v3), some (aI v4), some (aI v5)]) (s1 := []) (h1 := setH (setH (setH (setH (setH (setH h 160 ((w32 (h 150 5)).toNat) v1) 161 ((w32 (h 150 5)).toNat) v2) 162 ((w32 (h 150 5)).toNat) v3) 163 ((w32 (h 150 5)).toNat) v4) 164 ((w32 (h 150 5)).toNat) v5) 150 5 ((h 150 5) + 1)) rfl ?_
  exact A_retv hM.1 rfl rfl rfl (hq (setH (setH (setH (setH (setH (setH h 160 ((w32 (h 150 5)).toNat) v1) 161 ((w32 (h 150 5)).toNat) v2) 162 ((w32 (h 150 5)).toNat) v3) 163 ((w32 (h 150 5)).toNat) v4) 164 ((w32 (h 150 5)).toNat) v5) 150 5 ((h 150 5) + 1)) hh)

set_option maxRecDepth 20000 in
set_option maxHeartbeats 4000000 in
theorem ct_X12_comes {G : Gx} (v1 : Int) (v2 : Int) (v3 : Int) (v4 : Int) (v5 : Int) (h : Hp)   {P : Hp → Prop} (hh : OK (X12_comes v1 v2 v3 v4 v5 h) P) : CT G yX12_comes M_X12_comes 1 0 0 FN h [aR 150, aI v1, aI v2, aI v3, aI v4, aI v5] (fun r F' h' => F' = FN ∧ r = none ∧ P h') :=
  CT.of (by decide +kernel) rfl (Nat.le_of_ble_eq_true rfl) k_X12_comes fun k0 _ _ hM => c_X12_comes hM v1 v2 v3 v4 v5 h (fun z hz => ⟨rfl, rfl, hz⟩) hh

theorem mi_X12_bit : MIv yX12_bit M_X12_bit 5 := ⟨⟨(mem_GW 1921 (by decide +kernel) rfl), (mem_GW 135 (by decide +kernel) rfl), by decide +kernel, by decide +kernel, by decide +kernel, by decide⟩, (mem_GW 1919 (by decide +kernel) rfl), (mem_GW 1920 (by decide +kernel) rfl)⟩
set_option maxRecDepth 20000 in
set_option maxHeartbeats 4000000 in
theorem c_X12_bit_l44 {k0 : K0} {G : Gx} {Qp : Option AV → Fx → Hp → Prop} (hM : MB (KM k0 0 0 Qp) G M_X12_bit 3) (v1 : Int) (v2 : Int) (v3 : Int) (v4 : Int) (v5 : Int) (x : Int × Hp)   {P : ((Int × Hp) ⊕ ((Hp) ⊕ (Hp))) → Prop} (hin : ∀ y : Int × Hp, P (.inl y) → ATk (KM k0 0 0 Qp) FN 0 0 M_X12_bit 44 [some (aR 150), some (aI v1), some (aI v2), some (aI v3), some (aI v4), some (aI v5), some (aI y.1)] [] y.2) (hout0 : ∀ y : Hp, P (.inr (.inl y)) → ATk (KM k0 0 0 Qp) FN 0 0 M_X12_bit 56 [none, none, none, none, none, none, none] [] y) (hout1 : ∀ y : Hp, P (.inr (.inr y)) → ATk (KM k0 0 0 Qp) FN 0 0 M_X12_bit 73 [some (aR 150), some (aI v1), some (aI v2), some (aI v3), some (aI v4), some (aI v5), none] [] y) (hh : OK (X12_bit_l44 v1 v2 v3 v4 v5 x) P) : ATk (KM k0 0 0 Qp) FN 0 0 M_X12_bit 44 [some (aR 150), some (aI v1), some (aI v2), some (aI v3), some (aI v4), some (aI v5), some (aI x.1)] [] x.2 := by
  unfold X12_bit_l44 at hh
  refine A_blk hM.1 2 (lv1 := [some (aR 150), some (aI v1), some (aI v2), some (aI v3), some (aI v4), some (aI v5), some (aI x.1)]) (s1 := [aI v5, aI x.1]) (h1 := x.2) rfl ?_
  refine A_icmp hM.1 rfl rfl (fun hc => ?_) (fun hc => ?_)
  · replace hh := OK_t hh hc
    refine A_mask [true, true, true, true, true, true, false] (lv1 := [some (aR 150), some (aI v1), some (aI v2), some (aI v3), some (aI v4), some (aI v5), none]) rfl ?_
    exact hout1 x.2 hh
  · replace hh := OK_f hh hc
    refine A_blk hM.1 3 (lv1 := [some (aR 150), some (aI v1), some (aI v2), some (aI v3), some (aI v4), some (aI v5), some (aI x.1)]) (s1 := [aI x.1, aR 151]) (h1 := x.2) rfl ?_
    obtain ⟨g5, hh⟩ := OK_g hh
    refine A_ald hM.1 rfl (Or.inr ⟨rfl, (Or.inl rfl)⟩) rfl (by decide) rfl g5 ?_
    refine A_blk hM.1 3 (lv1 := [some (aR 150), some (aI v1), some (aI v2), some (aI v3), some (aI v4), some (aI v5), some (aI x.1)]) (s1 := [aL 63, aL 0, aL (w32 (x.2 151 ((w32 x.1).toNat)))]) (h1 := x.2) rfl ?_
    refine A_callS hM rfl rfl (mem_GW 1879 (by decide +kernel) rfl) mi_X12_lies ms_X12_lies (As := [aL (w32 (x.2 151 ((w32 x.1).toNat))), aL 0, aL 63]) (rest := []) (ct_X12_lies (w32 (x.2 151 ((w32 x.1).toNat))) 0 63 x.2 (OK_bind hh)) (by decide) ⟨Nat.zero_le _, Nat.zero_le _⟩ rfl rfl (Nat.le_of_ble_eq_true rfl) (fun r F' h' hq1 => ?_)
    obtain ⟨rfl, r6, rfl, e9, hh⟩ := hq1
    subst h'
    refine A_ifc hM.1 rfl rfl (fun hc => ?_) (fun hc => ?_)
    · replace hh := OK_t hh hc
      refine A_blk hM.1 11 (lv1 := [some (aR 150), some (aI v1), some (aI v2), some (aI v3), some (aI v4), some (aI v5), some (aI x.1)]) (s1 := [aI x.1, aR 151, aI ((8 * (x.2 150 5)) + x.1), aR 165]) (h1 := x.2) rfl ?_
      obtain ⟨g7, hh⟩ := OK_g hh
      refine A_ald hM.1 rfl (Or.inr ⟨rfl, (Or.inl rfl)⟩) rfl (by decide) rfl g7 ?_
      obtain ⟨g8, hh⟩ := OK_g hh
      refine A_ast hM.1 rfl (Or.inl ⟨rfl, rfl, rfl⟩) rfl rfl rfl g8 ?_
      refine A_blk hM.1 1 (lv1 := [some (aR 150), some (aI v1), some (aI v2), some (aI v3), some (aI v4), some (aI v5), some (aI (x.1 + 1))]) (s1 := []) (h1 := setH x.2 165 ((w32 ((8 * (x.2 150 5)) + x.1)).toNat) (x.2 151 ((w32 x.1).toNat))) rfl ?_
      refine A_go hM.1 rfl rfl ?_
      exact hin (x.1 + 1, setH x.2 165 ((w32 ((8 * (x.2 150 5)) + x.1)).toNat) (x.2 151 ((w32 x.1).toNat))) hh
    · replace hh := OK_f hh hc
      refine A_mask [false, false, false, false, false, false, false] (lv1 := [none, none, none, none, none, none, none]) rfl ?_
      exact hout0 x.2 hh

set_option maxRecDepth 20000 in
set_option maxHeartbeats 4000000 in
theorem c_X12_bit_j15 {k0 : K0} {G : Gx} {Qp : Option AV → Fx → Hp → Prop} (hM : MB (KM k0 0 0 Qp) G M_X12_bit 3) (v1 : Int) (v2 : Int) (v3 : Int) (v4 : Int) (v5 : Int) (h : Hp)   {P : (Int × Hp) → Prop} (hq : ∀ z : Int × Hp, P z → Qp (some (aI z.1)) FN z.2) (hh : OK (X12_bit_j15 v1 v2 v3 v4 v5 h) P) : ATk (KM k0 0 0 Qp) FN 0 0 M_X12_bit 15 [some (aR 150), some (aI v1), some (aI v2), some (aI v3), some (aI v4), some (aI v5), none] [] h := by
  unfold X12_bit_j15 at hh
  refine A_blk hM.1 4 (lv1 := [some (aR 150), some (aI v1), some (aI v2), some (aI v3), some (aI v4), some (aI v5), none]) (s1 := [aL 40, aL 0, aL (w32 v3)]) (h1 := h) rfl ?_
  refine A_callS hM rfl rfl (mem_GW 1879 (by decide +kernel) rfl) mi_X12_lies ms_X12_lies (As := [aL (w32 v3), aL 0, aL 40]) (rest := []) (ct_X12_lies (w32 v3) 0 40 h (OK_bind hh)) (by decide) ⟨Nat.zero_le _, Nat.zero_le _⟩ rfl rfl (Nat.le_of_ble_eq_true rfl) (fun r F' h' hq1 => ?_)
  obtain ⟨rfl, r2, rfl, e9, hh⟩ := hq1
  subst h'
  refine A_ifc hM.1 rfl rfl (fun hc => ?_) (fun hc => ?_)
  · replace hh := OK_t hh hc
    refine A_blk hM.1 1 (lv1 := [some (aR 150), some (aI v1), some (aI v2), some (aI v3), some (aI v4), some (aI v5), none]) (s1 := [aI (-1)]) (h1 := h) rfl ?_
    exact A_reti hM.1 rfl rfl rfl (hq ((-1), h) hh)
  · replace hh := OK_f hh hc
    refine A_blk hM.1 4 (lv1 := [some (aR 150), some (aI v1), some (aI v2), some (aI v3), some (aI v4), some (aI v5), none]) (s1 := [aL 9, aL 0, aL (w32 v4)]) (h1 := h) rfl ?_
    refine A_callS hM rfl rfl (mem_GW 1879 (by decide +kernel) rfl) mi_X12_lies ms_X12_lies (As := [aL (w32 v4), aL 0, aL 9]) (rest := []) (ct_X12_lies (w32 v4) 0 9 h (OK_bind hh)) (by decide) ⟨Nat.zero_le _, Nat.zero_le _⟩ rfl rfl (Nat.le_of_ble_eq_true rfl) (fun r F' h' hq1 => ?_)
    obtain ⟨rfl, r3, rfl, e9, hh⟩ := hq1
    subst h'
    refine A_ifc hM.1 rfl rfl (fun hc => ?_) (fun hc => ?_)
    · replace hh := OK_t hh hc
      refine A_blk hM.1 1 (lv1 := [some (aR 150), some (aI v1), some (aI v2), some (aI v3), some (aI v4), some (aI v5), none]) (s1 := [aI (-1)]) (h1 := h) rfl ?_
      exact A_reti hM.1 rfl rfl rfl (hq ((-1), h) hh)
    · replace hh := OK_f hh hc
      refine A_blk hM.1 4 (lv1 := [some (aR 150), some (aI v1), some (aI v2), some (aI v3), some (aI v4), some (aI v5), none]) (s1 := [aL 8, aL 1, aL (w32 v5)]) (h1 := h) rfl ?_
      refine A_callS hM rfl rfl (mem_GW 1879 (by decide +kernel) rfl) mi_X12_lies ms_X12_lies (As := [aL (w32 v5), aL 1, aL 8]) (rest := []) (ct_X12_lies (w32 v5) 1 8 h (OK_bind hh)) (by decide) ⟨Nat.zero_le _, Nat.zero_le _⟩ rfl rfl (Nat.le_of_ble_eq_true rfl) (fun r F' h' hq1 => ?_)
      obtain ⟨rfl, r4, rfl, e9, hh⟩ := hq1
      subst h'
      refine A_ifc hM.1 rfl rfl (fun hc => ?_) (fun hc => ?_)
      · replace hh := OK_t hh hc
        refine A_blk hM.1 1 (lv1 := [some (aR 150), some (aI v1), some (aI v2), some (aI v3), some (aI v4), some (aI v5), none]) (s1 := [aI (-1)]) (h1 := h) rfl ?_
        exact A_reti hM.1 rfl rfl rfl (hq ((-1), h) hh)
      · replace hh := OK_f hh hc
        refine A_blk hM.1 3 (lv1 := [some (aR 150), some (aI v1), some (aI v2), some (aI v3), some (aI v4), some (aI v5), none]) (s1 := [aI (h 150 1), aI v5]) (h1 := h) rfl ?_
        refine A_icmp hM.1 rfl rfl (fun hc => ?_) (fun hc => ?_)
        · replace hh := OK_t hh hc
          refine A_blk hM.1 5 (lv1 := [some (aR 150), some (aI v1), some (aI v2), some (aI v3), some (aI v4), some (aI v5), some (aI 0)]) (s1 := []) (h1 := setH h 150 1 0) rfl ?_
          refine iter_ok (s := (0, setH h 150 1 0)) (Gp := fun z => ATk (KM k0 0 0 Qp) FN 0 0 M_X12_bit 44 [some (aR 150), some (aI v1), some (aI v2), some (aI v3), some (aI v4), some (aI v5), some (aI z.1)] [] z.2) (E := fun z => (∀ y, z = (.inl y) → ATk (KM k0 0 0 Qp) FN 0 0 M_X12_bit 56 [none, none, none, none, none, none, none] [] y) ∧ (∀ y, z = (.inr y) → ATk (KM k0 0 0 Qp) FN 0 0 M_X12_bit 73 [some (aR 150), some (aI v1), some (aI v2), some (aI v3), some (aI v4), some (aI v5), none] [] y)) (fun z P1 g1 g2 g3 => c_X12_bit_l44 hM v1 v2 v3 v4 v5 z g2 (fun y hy => (g3 (.inl y) hy).1 y rfl) (fun y hy => (g3 (.inr y) hy).2 y rfl) g1) (OK_bind hh) (fun x9 hh => ?_)
          refine ⟨fun y e => ?_, fun y e => ?_⟩
          · obtain ⟨y10, rfl⟩ : ∃ z, z = y := ⟨_, rfl⟩
            subst e
            refine A_blk hM.1 1 (lv1 := [none, none, none, none, none, none, none]) (s1 := [aI (-2)]) (h1 := y10) rfl ?_
            exact A_reti hM.1 rfl rfl rfl (hq ((-2), y10) hh)
          · obtain ⟨y11, rfl⟩ : ∃ z, z = y := ⟨_, rfl⟩
            subst e
            refine A_blk hM.1 6 (lv1 := [some (aR 150), some (aI v1), some (aI v2), some (aI v3), some (aI v4), some (aI v5), none]) (s1 := [aI v5, aI v4, aI v3, aI v2, aI v1, aR 150]) (h1 := y11) rfl ?_
            refine A_callV hM rfl rfl (mem_GW 1928 (by decide +kernel) rfl) mi_X12_comes (As := [aI v1, aI v2, aI v3, aI v4, aI v5]) (rest := []) (ct_X12_comes v1 v2 v3 v4 v5 y11 (OK_bind hh)) (by decide) ⟨Nat.zero_le _, Nat.zero_le _⟩ rfl rfl (Nat.le_of_ble_eq_true rfl) (by decide) rfl (by decide) rfl (fun r F' h' hq1 => ?_)
            obtain ⟨rfl, rfl, hh⟩ := hq1
            obtain ⟨r12, rfl⟩ : ∃ z, z = h' := ⟨_, rfl⟩
            refine A_blk hM.1 4 (lv1 := [some (aR 150), some (aI v1), some (aI v2), some (aI v3), some (aI v4), some (aI v5), none]) (s1 := [aI ((r12 150 5) - 1)]) (h1 := r12) rfl ?_
            exact A_reti hM.1 rfl rfl rfl (hq ((r12 150 5) - 1, r12) hh)
        · replace hh := OK_f hh hc
          refine A_blk hM.1 1 (lv1 := [some (aR 150), some (aI v1), some (aI v2), some (aI v3), some (aI v4), some (aI v5), none]) (s1 := [aI (-1)]) (h1 := h) rfl ?_
          exact A_reti hM.1 rfl rfl rfl (hq ((-1), h) hh)

set_option maxRecDepth 20000 in
set_option maxHeartbeats 4000000 in
theorem c_X12_bit {k0 : K0} {G : Gx} {Qp : Option AV → Fx → Hp → Prop} (hM : MB (KM k0 0 0 Qp) G M_X12_bit 3) (v1 : Int) (v2 : Int) (v3 : Int) (v4 : Int) (v5 : Int) (h : Hp)   {P : (Int × Hp) → Prop} (hq : ∀ z : Int × Hp, P z → Qp (some (aI z.1)) FN z.2) (hh : OK (X12_bit v1 v2 v3 v4 v5 h) P) : ATk (KM k0 0 0 Qp) FN 0 0 M_X12_bit 0 [some (aR 150), some (aI v1), some (aI v2), some (aI v3), some (aI v4), some (aI v5), none] [] h := by
  unfold X12_bit at hh
  refine A_blk hM.1 3 (lv1 := [some (aR 150), some (aI v1), some (aI v2), some (aI v3), some (aI v4), some (aI v5), none]) (s1 := [aI 40, aI (h 150 5)]) (h1 := h) rfl ?_
  refine A_icmp hM.1 rfl rfl (fun hc => ?_) (fun hc => ?_)
  · replace hh := OK_t hh hc
    refine A_blk hM.1 1 (lv1 := [some (aR 150), some (aI v1), some (aI v2), some (aI v3), some (aI v4), some (aI v5), none]) (s1 := [aI (-1)]) (h1 := h) rfl ?_
    exact A_reti hM.1 rfl rfl rfl (hq ((-1), h) hh)
  · replace hh := OK_f hh hc
    refine A_blk hM.1 2 (lv1 := [some (aR 150), some (aI v1), some (aI v2), some (aI v3), some (aI v4), some (aI v5), none]) (s1 := [aI v1, aR 150]) (h1 := h) rfl ?_
    refine A_callV hM rfl rfl (mem_GW 1922 (by decide +kernel) rfl) mi_X12_isWriter (As := [aI v1]) (rest := []) (ct_X12_isWriter v1 h (OK_bind hh)) (by decide) ⟨Nat.zero_le _, Nat.zero_le _⟩ rfl rfl (Nat.le_of_ble_eq_true rfl) (by decide) rfl (by decide) rfl (fun r F' h' hq1 => ?_)
    obtain ⟨rfl, r1, rfl, e9, hh⟩ := hq1
    subst h'
    refine A_ifc hM.1 rfl rfl (fun hc => ?_) (fun hc => ?_)
    · replace hh := OK_t hh hc
      refine A_blk hM.1 1 (lv1 := [some (aR 150), some (aI v1), some (aI v2), some (aI v3), some (aI v4), some (aI v5), none]) (s1 := [aI (-1)]) (h1 := h) rfl ?_
      exact A_reti hM.1 rfl rfl rfl (hq ((-1), h) hh)
    · replace hh := OK_f hh hc
      refine A_blk hM.1 2 (lv1 := [some (aR 150), some (aI v1), some (aI v2), some (aI v3), some (aI v4), some (aI v5), none]) (s1 := [aI (-1), aI v2]) (h1 := h) rfl ?_
      refine A_icmp hM.1 rfl rfl (fun hc => ?_) (fun hc => ?_)
      · replace hh := OK_t hh hc
        exact c_X12_bit_j15 hM v1 v2 v3 v4 v5 h hq hh
      · replace hh := OK_f hh hc
        refine A_blk hM.1 2 (lv1 := [some (aR 150), some (aI v1), some (aI v2), some (aI v3), some (aI v4), some (aI v5), none]) (s1 := [aI v2, aR 150]) (h1 := h) rfl ?_
        refine A_callV hM rfl rfl (mem_GW 1913 (by decide +kernel) rfl) mi_X12_isWork (As := [aI v2]) (rest := []) (ct_X12_isWork v2 h (OK_bind hh)) (by decide) ⟨Nat.zero_le _, Nat.zero_le _⟩ rfl rfl (Nat.le_of_ble_eq_true rfl) (by decide) rfl (by decide) rfl (fun r F' h' hq1 => ?_)
        obtain ⟨rfl, r13, rfl, e9, hh⟩ := hq1
        subst h'
        refine A_ifc hM.1 rfl rfl (fun hc => ?_) (fun hc => ?_)
        · replace hh := OK_t hh hc
          refine A_blk hM.1 1 (lv1 := [some (aR 150), some (aI v1), some (aI v2), some (aI v3), some (aI v4), some (aI v5), none]) (s1 := [aI (-1)]) (h1 := h) rfl ?_
          exact A_reti hM.1 rfl rfl rfl (hq ((-1), h) hh)
        · replace hh := OK_f hh hc
          exact c_X12_bit_j15 hM v1 v2 v3 v4 v5 h hq hh

set_option maxRecDepth 20000 in
set_option maxHeartbeats 4000000 in
theorem ct_X12_bit {G : Gx} (v1 : Int) (v2 : Int) (v3 : Int) (v4 : Int) (v5 : Int) (h : Hp)   {P : (Int × Hp) → Prop} (hh : OK (X12_bit v1 v2 v3 v4 v5 h) P) : CT G yX12_bit M_X12_bit 3 0 0 FN h [aR 150, aI v1, aI v2, aI v3, aI v4, aI v5] (fun r F' h' => F' = FN ∧ ∃ z, r = some (aI z.1) ∧ h' = z.2 ∧ P z) :=
  CT.of (by decide +kernel) rfl (Nat.le_of_ble_eq_true rfl) k_X12_bit fun k0 _ _ hM => c_X12_bit hM v1 v2 v3 v4 v5 h (fun z hz => ⟨rfl, z, rfl, rfl, hz⟩) hh

theorem mi_X12_here : MIv yX12_here M_X12_here 0 := ⟨⟨(mem_GW 1952 (by decide +kernel) rfl), (mem_GW 135 (by decide +kernel) rfl), by decide +kernel, by decide +kernel, by decide +kernel, by decide⟩, (mem_GW 1951 (by decide +kernel) rfl), (mem_GW 64 (by decide +kernel) rfl)⟩
set_option maxRecDepth 20000 in
set_option maxHeartbeats 4000000 in
theorem c_X12_here {k0 : K0} {G : Gx} {Qp : Option AV → Fx → Hp → Prop} (hM : MB (KM k0 0 0 Qp) G M_X12_here 1) (h : Hp)   {P : Int → Prop} (hq : ∀ z : Int, P z → Qp (some (aI z)) FN h) (hh : OK (X12_here h) P) : ATk (KM k0 0 0 Qp) FN 0 0 M_X12_here 0 [some (aR 150)] [] h := by
  unfold X12_here at hh
  refine A_blk hM.1 4 (lv1 := [some (aR 150)]) (s1 := [aI (h 150 35), aI (h 150 34)]) (h1 := h) rfl ?_
  refine A_icmp hM.1 rfl rfl (fun hc => ?_) (fun hc => ?_)
  · replace hh := OK_t hh hc
    refine A_blk hM.1 1 (lv1 := [some (aR 150)]) (s1 := [aI 0]) (h1 := h) rfl ?_
    exact A_reti hM.1 rfl rfl rfl (hq 0 hh)
  · replace hh := OK_f hh hc
    refine A_blk hM.1 4 (lv1 := [some (aR 150)]) (s1 := [aI (h 150 34), aR 151]) (h1 := h) rfl ?_
    obtain ⟨g1, hh⟩ := OK_g hh
    refine A_ald hM.1 rfl (Or.inr ⟨rfl, (Or.inl rfl)⟩) rfl (by decide) rfl g1 ?_
    refine A_blk hM.1 2 (lv1 := [some (aR 150)]) (s1 := [aI (and32 (h 151 ((w32 (h 150 34)).toNat)) 255)]) (h1 := h) rfl ?_
    refine A_go hM.1 rfl rfl ?_
    exact A_reti hM.1 rfl rfl rfl (hq (and32 (h 151 ((w32 (h 150 34)).toNat)) 255) hh)

set_option maxRecDepth 20000 in
set_option maxHeartbeats 4000000 in
theorem ct_X12_here {G : Gx} (h : Hp)   {P : Int → Prop} (hh : OK (X12_here h) P) : CT G yX12_here M_X12_here 1 0 0 FN h [aR 150] (fun r F' h' => F' = FN ∧ ∃ z, r = some (aI z) ∧ h' = h ∧ P z) :=
  CT.of (by decide +kernel) rfl (Nat.le_of_ble_eq_true rfl) k_X12_here fun k0 _ _ hM => c_X12_here hM h (fun z hz => ⟨rfl, z, rfl, rfl, hz⟩) hh

theorem mi_X12_wrongs : MIv yX12_wrongs M_X12_wrongs 2 := ⟨⟨(mem_GW 1959 (by decide +kernel) rfl), (mem_GW 135 (by decide +kernel) rfl), by decide +kernel, by decide +kernel, by decide +kernel, by decide⟩, (mem_GW 1958 (by decide +kernel) rfl), (mem_GW 65 (by decide +kernel) rfl)⟩
set_option maxRecDepth 20000 in
set_option maxHeartbeats 4000000 in
theorem c_X12_wrongs_j12 {k0 : K0} {G : Gx} {Qp : Option AV → Fx → Hp → Prop} (hM : MB (KM k0 0 0 Qp) G M_X12_wrongs 1) (s1 : Int) (h : Hp)   {P : Hp → Prop} (hq : ∀ z : Hp, P z → Qp none FN z) (hh : OK (X12_wrongs_j12 s1 h) P) : ATk (KM k0 0 0 Qp) FN 0 0 M_X12_wrongs 12 [none, none, none] [aI s1, aR 150] h := by
  unfold X12_wrongs_j12 at hh
  refine A_blk hM.1 1 (lv1 := [none, none, none]) (s1 := []) (h1 := setH h 150 36 s1) rfl ?_
  exact A_retv hM.1 rfl rfl rfl (hq (setH h 150 36 s1) hh)

set_option maxRecDepth 20000 in
set_option maxHeartbeats 4000000 in
theorem c_X12_wrongs {k0 : K0} {G : Gx} {Qp : Option AV → Fx → Hp → Prop} (hM : MB (KM k0 0 0 Qp) G M_X12_wrongs 1) (v1 : Int) (v2 : Int) (h : Hp)   {P : Hp → Prop} (hq : ∀ z : Hp, P z → Qp none FN z) (hh : OK (X12_wrongs v1 v2 h) P) : ATk (KM k0 0 0 Qp) FN 0 0 M_X12_wrongs 0 [some (aR 150), some (aI v1), some (aI v2)] [] h := by
  unfold X12_wrongs at hh
  refine A_blk hM.1 3 (lv1 := [some (aR 150), some (aI v1), some (aI v2)]) (s1 := [aI (h 150 36), aR 150]) (h1 := h) rfl ?_
  refine A_ifc hM.1 rfl rfl (fun hc => ?_) (fun hc => ?_)
  · replace hh := OK_t hh hc
    refine A_blk hM.1 5 (lv1 := [some (aR 150), some (aI v1), some (aI v2)]) (s1 := [aI (((-1000) * v1) - v2), aR 150]) (h1 := h) rfl ?_
    refine A_mask [false, false, false] (lv1 := [none, none, none]) rfl ?_
    exact c_X12_wrongs_j12 hM (((-1000) * v1) - v2) h hq hh
  · replace hh := OK_f hh hc
    refine A_blk hM.1 2 (lv1 := [some (aR 150), some (aI v1), some (aI v2)]) (s1 := [aI (h 150 36), aR 150]) (h1 := h) rfl ?_
    refine A_go hM.1 rfl rfl ?_
    refine A_mask [false, false, false] (lv1 := [none, none, none]) rfl ?_
    exact c_X12_wrongs_j12 hM (h 150 36) h hq hh

set_option maxRecDepth 20000 in
set_option maxHeartbeats 4000000 in
theorem ct_X12_wrongs {G : Gx} (v1 : Int) (v2 : Int) (h : Hp)   {P : Hp → Prop} (hh : OK (X12_wrongs v1 v2 h) P) : CT G yX12_wrongs M_X12_wrongs 1 0 0 FN h [aR 150, aI v1, aI v2] (fun r F' h' => F' = FN ∧ r = none ∧ P h') :=
  CT.of (by decide +kernel) rfl (Nat.le_of_ble_eq_true rfl) k_X12_wrongs fun k0 _ _ hM => c_X12_wrongs hM v1 v2 h (fun z hz => ⟨rfl, rfl, hz⟩) hh

theorem mi_X12_isGood : MIv yX12_isGood M_X12_isGood 0 := ⟨⟨(mem_GW 1944 (by decide +kernel) rfl), (mem_GW 135 (by decide +kernel) rfl), by decide +kernel, by decide +kernel, by decide +kernel, by decide⟩, (mem_GW 1943 (by decide +kernel) rfl), (mem_GW 62 (by decide +kernel) rfl)⟩
set_option maxRecDepth 20000 in
set_option maxHeartbeats 4000000 in
theorem c_X12_isGood {k0 : K0} {G : Gx} {Qp : Option AV → Fx → Hp → Prop} (hM : MB (KM k0 0 0 Qp) G M_X12_isGood 1) (h : Hp)   {P : Int → Prop} (hq : ∀ z : Int, P z → Qp (some (aI z)) FN h) (hh : OK (X12_isGood h) P) : ATk (KM k0 0 0 Qp) FN 0 0 M_X12_isGood 0 [some (aR 150)] [] h := by
  unfold X12_isGood at hh
  refine A_blk hM.1 2 (lv1 := [some (aR 150)]) (s1 := [aI (h 150 36)]) (h1 := h) rfl ?_
  refine A_ifc hM.1 rfl rfl (fun hc => ?_) (fun hc => ?_)
  · replace hh := OK_t hh hc
    refine A_blk hM.1 1 (lv1 := [some (aR 150)]) (s1 := [aI 0]) (h1 := h) rfl ?_
    exact A_retz hM.1 rfl rfl rfl (by decide) (hq 0 hh)
  · replace hh := OK_f hh hc
    refine A_blk hM.1 1 (lv1 := [some (aR 150)]) (s1 := [aI 1]) (h1 := h) rfl ?_
    refine A_go hM.1 rfl rfl ?_
    exact A_retz hM.1 rfl rfl rfl (by decide) (hq 1 hh)

set_option maxRecDepth 20000 in
set_option maxHeartbeats 4000000 in
theorem ct_X12_isGood {G : Gx} (h : Hp)   {P : Int → Prop} (hh : OK (X12_isGood h) P) : CT G yX12_isGood M_X12_isGood 1 0 0 FN h [aR 150] (fun r F' h' => F' = FN ∧ ∃ z, r = some (aI z) ∧ h' = h ∧ P z) :=
  CT.of (by decide +kernel) rfl (Nat.le_of_ble_eq_true rfl) k_X12_isGood fun k0 _ _ hM => c_X12_isGood hM h (fun z hz => ⟨rfl, z, rfl, rfl, hz⟩) hh

