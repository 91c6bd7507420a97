set_option linter.all false
theorem mi_X1_advance : MIv yX1_advance M_X1_advance 3 := ⟨⟨(mem_GW 1028 (by decide +kernel) rfl), (mem_GW 129 (by decide +kernel) rfl), by decide +kernel, by decide +kernel, by decide +kernel, by decide⟩, (mem_GW 1027 (by decide +kernel) rfl), (mem_GW 27 (by decide +kernel) rfl)⟩
set_option maxRecDepth 20000 in
set_option maxHeartbeats 4000000 in
theorem c_X1_advance_j35 {k0 : K0} {G : Gx} {Qp : Option AV → Fx → Hp → Prop} (hM : MB (KM k0 0 0 Qp) G M_X1_advance 3) (v1 : Int) (v2 : Int) (v3 : Int) (v5 : Int) (s0 : Int) (h : Hp)   {P : ((Int × Int × Hp) ⊕ (Hp)) → Prop} (hin : ∀ y : Int × Int × Hp, P (.inl y) → ATk (KM k0 0 0 Qp) FN 0 0 M_X1_advance 15 [some (aR 53), some (aI v1), some (aI v2), some (aI v3), some (aI y.1), some (aI y.2.1), none] [] y.2.2) (hout0 : ∀ y : Hp, P (.inr y) → ATk (KM k0 0 0 Qp) FN 0 0 M_X1_advance 59 [none, none, none, none, none, none, none] [] y) (hh : OK (X1_advance_j35 v1 v2 v3 v5 s0 h) P) : ATk (KM k0 0 0 Qp) FN 0 0 M_X1_advance 35 [some (aR 53), some (aI v1), some (aI v2), some (aI v3), none, some (aI v5), none] [aI s0] h := by
  unfold X1_advance_j35 at hh
  refine A_blk hM.1 4 (lv1 := [some (aR 53), some (aI v1), some (aI v2), some (aI v3), none, some (aI v5), some (aI s0)]) (s1 := [aI v5, aR 54]) (h1 := h) rfl ?_
  obtain ⟨g5, hh⟩ := OK_g hh
  refine A_ald hM.1 rfl (Or.inl ⟨rfl, rfl⟩) rfl (by decide) rfl g5 ?_
  refine A_blk hM.1 10 (lv1 := [some (aR 53), some (aI v1), some (aI v2), some (aI v3), some (aI (h 54 ((w32 v5).toNat))), some (aI v5), some (aI s0)]) (s1 := [aI (v5 - 1), aR 54, aI s0, aI v5, aR 54]) (h1 := h) rfl ?_
  obtain ⟨g6, hh⟩ := OK_g hh
  refine A_ald hM.1 rfl (Or.inl ⟨rfl, rfl⟩) rfl (by decide) rfl g6 ?_
  refine A_blk hM.1 1 (lv1 := [some (aR 53), some (aI v1), some (aI v2), some (aI v3), some (aI (h 54 ((w32 v5).toNat))), some (aI v5), some (aI s0)]) (s1 := [aI (h 54 ((w32 v5).toNat)), aI (h 54 ((w32 (v5 - 1)).toNat)), aI s0, aI v5, aR 54]) (h1 := h) rfl ?_
  refine A_min hM rfl rfl (mem_GW 1029 (by decide +kernel) rfl) (by decide) (Nat.le_of_ble_eq_true rfl) ⟨Nat.zero_le _, Nat.zero_le _⟩ ?_
  refine A_blk hM.1 2 (lv1 := [some (aR 53), some (aI v1), some (aI v2), some (aI v3), some (aI (h 54 ((w32 v5).toNat))), some (aI v5), some (aI s0)]) (s1 := [aI ((minI (h 54 ((w32 (v5 - 1)).toNat)) (h 54 ((w32 v5).toNat))) + 1), aI s0, aI v5, aR 54]) (h1 := h) rfl ?_
  refine A_min hM rfl rfl (mem_GW 1029 (by decide +kernel) rfl) (by decide) (Nat.le_of_ble_eq_true rfl) ⟨Nat.zero_le _, Nat.zero_le _⟩ ?_
  obtain ⟨g7, hh⟩ := OK_g hh
  refine A_ast hM.1 rfl (Or.inl ⟨rfl, rfl, rfl⟩) rfl rfl rfl g7 ?_
  refine A_blk hM.1 1 (lv1 := [some (aR 53), some (aI v1), some (aI v2), some (aI v3), some (aI (h 54 ((w32 v5).toNat))), some (aI (v5 + 1)), some (aI s0)]) (s1 := []) (h1 := setH h 54 ((w32 v5).toNat) (minI s0 ((minI (h 54 ((w32 (v5 - 1)).toNat)) (h 54 ((w32 v5).toNat))) + 1))) rfl ?_
  refine A_go hM.1 rfl rfl ?_
  refine A_mask [true, true, true, true, true, true, false] (lv1 := [some (aR 53), some (aI v1), some (aI v2), some (aI v3), some (aI (h 54 ((w32 v5).toNat))), some (aI (v5 + 1)), none]) rfl ?_
  exact hin (h 54 ((w32 v5).toNat), v5 + 1, setH h 54 ((w32 v5).toNat) (minI s0 ((minI (h 54 ((w32 (v5 - 1)).toNat)) (h 54 ((w32 v5).toNat))) + 1))) hh

set_option maxRecDepth 20000 in
set_option maxHeartbeats 4000000 in
theorem c_X1_advance_l15 {k0 : K0} {G : Gx} {Qp : Option AV → Fx → Hp → Prop} (hM : MB (KM k0 0 0 Qp) G M_X1_advance 3) (v1 : Int) (v2 : Int) (v3 : Int) (x : Int × Int × Hp)   {P : ((Int × Int × Hp) ⊕ (Hp)) → Prop} (hin : ∀ y : Int × Int × Hp, P (.inl y) → ATk (KM k0 0 0 Qp) FN 0 0 M_X1_advance 15 [some (aR 53), some (aI v1), some (aI v2), some (aI v3), some (aI y.1), some (aI y.2.1), none] [] y.2.2) (hout0 : ∀ y : Hp, P (.inr y) → ATk (KM k0 0 0 Qp) FN 0 0 M_X1_advance 59 [none, none, none, none, none, none, none] [] y) (hh : OK (X1_advance_l15 v1 v2 v3 x) P) : ATk (KM k0 0 0 Qp) FN 0 0 M_X1_advance 15 [some (aR 53), some (aI v1), some (aI v2), some (aI v3), some (aI x.1), some (aI x.2.1), none] [] x.2.2 := by
  unfold X1_advance_l15 at hh
  refine A_blk hM.1 2 (lv1 := [some (aR 53), some (aI v1), some (aI v2), some (aI v3), some (aI x.1), some (aI x.2.1), none]) (s1 := [aI v2, aI x.2.1]) (h1 := x.2.2) rfl ?_
  refine A_icmp hM.1 rfl rfl (fun hc => ?_) (fun hc => ?_)
  · replace hh := OK_t hh hc
    refine A_mask [false, false, false, false, false, false, true] (lv1 := [none, none, none, none, none, none, none]) rfl ?_
    exact hout0 x.2.2 hh
  · replace hh := OK_f hh hc
    refine A_blk hM.1 2 (lv1 := [some (aR 53), some (aI v1), some (aI v2), some (aI v3), some (aI x.1), some (aI x.2.1), none]) (s1 := [aI 9, aI x.2.1]) (h1 := x.2.2) rfl ?_
    refine A_icmp hM.1 rfl rfl (fun hc => ?_) (fun hc => ?_)
    · replace hh := OK_t hh hc
      refine A_mask [false, false, false, false, false, false, true] (lv1 := [none, none, none, none, none, none, none]) rfl ?_
      exact hout0 x.2.2 hh
    · replace hh := OK_f hh hc
      refine A_blk hM.1 6 (lv1 := [some (aR 53), some (aI v1), some (aI v2), some (aI v3), some (aI x.1), some (aI x.2.1), none]) (s1 := [aI (x.2.1 - 1), aI v1, aR 3]) (h1 := x.2.2) rfl ?_
      refine A_callV hM rfl rfl (mem_GW 1024 (by decide +kernel) rfl) mi_X7_bitWord (As := [aI v1, aI (x.2.1 - 1)]) (rest := []) (ct_X7_bitWord v1 (x.2.1 - 1) x.2.2 (OK_bind hh)) (by decide) ⟨Nat.zero_le _, Nat.zero_le _⟩ rfl rfl (Nat.le_of_ble_eq_true rfl) (by decide) rfl (by decide) rfl (fun r F' h' hq1 => ?_)
      obtain ⟨rfl, r4, rfl, e9, hh⟩ := hq1
      subst h'
      refine A_blk hM.1 1 (lv1 := [some (aR 53), some (aI v1), some (aI v2), some (aI v3), some (aI x.1), some (aI x.2.1), none]) (s1 := [aI v3, aI r4]) (h1 := x.2.2) rfl ?_
      refine A_icmp hM.1 rfl rfl (fun hc => ?_) (fun hc => ?_)
      · replace hh := OK_t hh hc
        refine A_blk hM.1 3 (lv1 := [some (aR 53), some (aI v1), some (aI v2), some (aI v3), some (aI x.1), some (aI x.2.1), none]) (s1 := [aI (x.1 + 1)]) (h1 := x.2.2) rfl ?_
        refine A_mask [true, true, true, true, false, true, true] (lv1 := [some (aR 53), some (aI v1), some (aI v2), some (aI v3), none, some (aI x.2.1), none]) rfl ?_
        exact c_X1_advance_j35 hM v1 v2 v3 x.2.1 (x.1 + 1) x.2.2 hin hout0 hh
      · replace hh := OK_f hh hc
        refine A_blk hM.1 1 (lv1 := [some (aR 53), some (aI v1), some (aI v2), some (aI v3), some (aI x.1), some (aI x.2.1), none]) (s1 := [aI x.1]) (h1 := x.2.2) rfl ?_
        refine A_go hM.1 rfl rfl ?_
        refine A_mask [true, true, true, true, false, true, true] (lv1 := [some (aR 53), some (aI v1), some (aI v2), some (aI v3), none, some (aI x.2.1), none]) rfl ?_
        exact c_X1_advance_j35 hM v1 v2 v3 x.2.1 x.1 x.2.2 hin hout0 hh

set_option maxRecDepth 20000 in
set_option maxHeartbeats 4000000 in
theorem c_X1_advance {k0 : K0} {G : Gx} {Qp : Option AV → Fx → Hp → Prop} (hM : MB (KM k0 0 0 Qp) G M_X1_advance 3) (v1 : Int) (v2 : Int) (v3 : Int) (h : Hp)   {P : Hp → Prop} (hq : ∀ z : Hp, P z → Qp none FN z) (hh : OK (X1_advance v1 v2 v3 h) P) : ATk (KM k0 0 0 Qp) FN 0 0 M_X1_advance 0 [some (aR 53), some (aI v1), some (aI v2), some (aI v3), none, none, none] [] h := by
  unfold X1_advance at hh
  refine A_blk hM.1 3 (lv1 := [some (aR 53), some (aI v1), some (aI v2), some (aI v3), none, none, none]) (s1 := [aI 0, aR 54]) (h1 := h) rfl ?_
  obtain ⟨g1, hh⟩ := OK_g hh
  refine A_ald hM.1 rfl (Or.inl ⟨rfl, rfl⟩) rfl (by decide) rfl g1 ?_
  refine A_blk hM.1 5 (lv1 := [some (aR 53), some (aI v1), some (aI v2), some (aI v3), some (aI (h 54 ((w32 0).toNat))), none, none]) (s1 := [aI 0, aR 54, aI 0, aR 54]) (h1 := h) rfl ?_
  obtain ⟨g2, hh⟩ := OK_g hh
  refine A_ald hM.1 rfl (Or.inl ⟨rfl, rfl⟩) rfl (by decide) rfl g2 ?_
  refine A_blk hM.1 2 (lv1 := [some (aR 53), some (aI v1), some (aI v2), some (aI v3), some (aI (h 54 ((w32 0).toNat))), none, none]) (s1 := [aI ((h 54 ((w32 0).toNat)) + 1), aI 0, aR 54]) (h1 := h) rfl ?_
  obtain ⟨g3, hh⟩ := OK_g hh
  refine A_ast hM.1 rfl (Or.inl ⟨rfl, rfl, rfl⟩) rfl rfl rfl g3 ?_
  refine A_blk hM.1 2 (lv1 := [some (aR 53), some (aI v1), some (aI v2), some (aI v3), some (aI (h 54 ((w32 0).toNat))), some (aI 1), none]) (s1 := []) (h1 := setH h 54 ((w32 0).toNat) ((h 54 ((w32 0).toNat)) + 1)) rfl ?_
  refine iter_ok (s := (h 54 ((w32 0).toNat), 1, setH h 54 ((w32 0).toNat) ((h 54 ((w32 0).toNat)) + 1))) (Gp := fun z => ATk (KM k0 0 0 Qp) FN 0 0 M_X1_advance 15 [some (aR 53), some (aI v1), some (aI v2), some (aI v3), some (aI z.1), some (aI z.2.1), none] [] z.2.2) (E := fun z => ATk (KM k0 0 0 Qp) FN 0 0 M_X1_advance 59 [none, none, none, none, none, none, none] [] z) (fun z P1 g1 g2 g3 => c_X1_advance_l15 hM v1 v2 v3 z g2 g3 g1) (OK_bind hh) (fun x8 hh => ?_)
  exact A_retv hM.1 rfl rfl rfl (hq x8 hh)

set_option maxRecDepth 20000 in
set_option maxHeartbeats 4000000 in
theorem ct_X1_advance {G : Gx} (v1 : Int) (v2 : Int) (v3 : Int) (h : Hp)   {P : Hp → Prop} (hh : OK (X1_advance v1 v2 v3 h) P) : CT G yX1_advance M_X1_advance 3 0 0 FN h [aR 53, aI v1, aI v2, aI v3] (fun r F' h' => F' = FN ∧ r = none ∧ P h') :=
  CT.of (by decide +kernel) rfl (Nat.le_of_ble_eq_true rfl) k_X1_advance fun k0 _ _ hM => c_X1_advance hM v1 v2 v3 h (fun z hz => ⟨rfl, rfl, hz⟩) hh

theorem mi_X1_far : MIv yX1_far M_X1_far 2 := ⟨⟨(mem_GW 1018 (by decide +kernel) rfl), (mem_GW 129 (by decide +kernel) rfl), by decide +kernel, by decide +kernel, by decide +kernel, by decide⟩, (mem_GW 1016 (by decide +kernel) rfl), (mem_GW 1017 (by decide +kernel) rfl)⟩
set_option maxRecDepth 20000 in
set_option maxHeartbeats 4000000 in
theorem c_X1_far_l10 {k0 : K0} {G : Gx} {Qp : Option AV → Fx → Hp → Prop} (hM : MB (KM k0 0 0 Qp) G M_X1_far 4) (v1 : Int) (v2 : Int) (v3 : Int) (x : Int × Hp)   {P : ((Int × Hp) ⊕ (Hp)) → Prop} (hin : ∀ y : Int × Hp, P (.inl y) → ATk (KM k0 0 0 Qp) FN 0 0 M_X1_far 10 [some (aR 53), some (aI v1), some (aI v2), some (aI v3), some (aI y.1)] [] y.2) (hout0 : ∀ y : Hp, P (.inr y) → ATk (KM k0 0 0 Qp) FN 0 0 M_X1_far 27 [some (aR 53), none, none, some (aI v3), none] [] y) (hh : OK (X1_far_l10 v1 v2 v3 x) P) : ATk (KM k0 0 0 Qp) FN 0 0 M_X1_far 10 [some (aR 53), some (aI v1), some (aI v2), some (aI v3), some (aI x.1)] [] x.2 := by
  unfold X1_far_l10 at hh
  refine A_blk hM.1 4 (lv1 := [some (aR 53), some (aI v1), some (aI v2), some (aI v3), some (aI x.1)]) (s1 := [aI v2, aR 3, aI x.1]) (h1 := x.2) rfl ?_
  refine A_callV hM rfl rfl (mem_GW 1019 (by decide +kernel) rfl) mi_X7_bitSize (As := [aI v2]) (rest := [aI x.1]) (ct_X7_bitSize v2 x.2 (OK_bind hh)) (by decide) ⟨Nat.zero_le _, Nat.zero_le _⟩ rfl rfl (Nat.le_of_ble_eq_true rfl) (by decide) rfl (by decide) rfl (fun r F' h' hq1 => ?_)
  obtain ⟨rfl, r3, rfl, e9, hh⟩ := hq1
  subst h'
  refine A_icmp hM.1 rfl rfl (fun hc => ?_) (fun hc => ?_)
  · replace hh := OK_t hh hc
    refine A_mask [true, false, false, true, false] (lv1 := [some (aR 53), none, none, some (aI v3), none]) rfl ?_
    exact hout0 x.2 hh
  · replace hh := OK_f hh hc
    refine A_blk hM.1 7 (lv1 := [some (aR 53), some (aI v1), some (aI v2), some (aI v3), some (aI x.1)]) (s1 := [aI x.1, aI v2, aR 3, aI v3, aI v1, aR 53]) (h1 := x.2) rfl ?_
    refine A_callV hM rfl rfl (mem_GW 1024 (by decide +kernel) rfl) mi_X7_bitWord (As := [aI v2, aI x.1]) (rest := [aI v3, aI v1, aR 53]) (ct_X7_bitWord v2 x.1 x.2 (OK_bind hh)) (by decide) ⟨Nat.zero_le _, Nat.zero_le _⟩ rfl rfl (Nat.le_of_ble_eq_true rfl) (by decide) rfl (by decide) rfl (fun r F' h' hq1 => ?_)
    obtain ⟨rfl, r4, rfl, e9, hh⟩ := hq1
    subst h'
    refine A_callV hM rfl rfl (mem_GW 1025 (by decide +kernel) rfl) mi_X1_advance (As := [aI v1, aI v3, aI r4]) (rest := []) (ct_X1_advance v1 v3 r4 x.2 (OK_bind hh)) (by decide) ⟨Nat.zero_le _, Nat.zero_le _⟩ rfl rfl (Nat.le_of_ble_eq_true rfl) (by decide) rfl (by decide) rfl (fun r F' h' hq1 => ?_)
    obtain ⟨rfl, rfl, hh⟩ := hq1
    obtain ⟨r5, rfl⟩ : ∃ z, z = h' := ⟨_, rfl⟩
    refine A_blk hM.1 1 (lv1 := [some (aR 53), some (aI v1), some (aI v2), some (aI v3), some (aI (x.1 + 1))]) (s1 := []) (h1 := r5) rfl ?_
    refine A_go hM.1 rfl rfl ?_
    exact hin (x.1 + 1, r5) hh

set_option maxRecDepth 20000 in
set_option maxHeartbeats 4000000 in
theorem c_X1_far {k0 : K0} {G : Gx} {Qp : Option AV → Fx → Hp → Prop} (hM : MB (KM k0 0 0 Qp) G M_X1_far 4) (v1 : Int) (v2 : Int) (h : Hp)   {P : (Int × Hp) → Prop} (hq : ∀ z : Int × Hp, P z → Qp (some (aI z.1)) FN z.2) (hh : OK (X1_far v1 v2 h) P) : ATk (KM k0 0 0 Qp) FN 0 0 M_X1_far 0 [some (aR 53), some (aI v1), some (aI v2), none, none] [] h := by
  unfold X1_far at hh
  refine A_blk hM.1 3 (lv1 := [some (aR 53), some (aI v1), some (aI v2), none, none]) (s1 := [aI v1, aR 3]) (h1 := h) rfl ?_
  refine A_callV hM rfl rfl (mem_GW 1019 (by decide +kernel) rfl) mi_X7_bitSize (As := [aI v1]) (rest := []) (ct_X7_bitSize v1 h (OK_bind hh)) (by decide) ⟨Nat.zero_le _, Nat.zero_le _⟩ rfl rfl (Nat.le_of_ble_eq_true rfl) (by decide) rfl (by decide) rfl (fun r F' h' hq1 => ?_)
  obtain ⟨rfl, r1, rfl, e9, hh⟩ := hq1
  subst h'
  refine A_blk hM.1 3 (lv1 := [some (aR 53), some (aI v1), some (aI v2), some (aI r1), none]) (s1 := [aI r1, aR 53]) (h1 := h) rfl ?_
  refine A_callV hM rfl rfl (mem_GW 1020 (by decide +kernel) rfl) mi_X1_startRow (As := [aI r1]) (rest := []) (ct_X1_startRow r1 h (OK_bind hh)) (by decide) ⟨Nat.zero_le _, Nat.zero_le _⟩ rfl rfl (Nat.le_of_ble_eq_true rfl) (by decide) rfl (by decide) rfl (fun r F' h' hq1 => ?_)
  obtain ⟨rfl, rfl, hh⟩ := hq1
  obtain ⟨r2, rfl⟩ : ∃ z, z = h' := ⟨_, rfl⟩
  refine A_blk hM.1 2 (lv1 := [some (aR 53), some (aI v1), some (aI v2), some (aI r1), some (aI 0)]) (s1 := []) (h1 := r2) rfl ?_
  refine iter_ok (s := (0, r2)) (Gp := fun z => ATk (KM k0 0 0 Qp) FN 0 0 M_X1_far 10 [some (aR 53), some (aI v1), some (aI v2), some (aI r1), some (aI z.1)] [] z.2) (E := fun z => ATk (KM k0 0 0 Qp) FN 0 0 M_X1_far 27 [some (aR 53), none, none, some (aI r1), none] [] z) (fun z P1 g1 g2 g3 => c_X1_far_l10 hM v1 v2 r1 z g2 g3 g1) (OK_bind hh) (fun x6 hh => ?_)
  refine A_blk hM.1 3 (lv1 := [some (aR 53), none, none, some (aI r1), none]) (s1 := [aI r1, aR 54]) (h1 := x6) rfl ?_
  refine A_callSN (host := "QuotedBooks") hM rfl rfl (mem_NW 1030 (by decide +kernel) rfl) mi_X11_at ms_X11_at (As := [aR 54, aI r1]) (rest := []) (ct_X11_at 54 9 r1 x6 rfl rfl (OK_bind hh)) (by decide) ⟨Nat.zero_le _, Nat.zero_le _⟩ rfl rfl (Nat.le_of_ble_eq_true rfl) (fun r F' h' hq1 => ?_)
  obtain ⟨rfl, r7, rfl, e9, hh⟩ := hq1
  subst h'
  exact A_reti hM.1 rfl rfl rfl (hq (r7, x6) hh)

set_option maxRecDepth 20000 in
set_option maxHeartbeats 4000000 in
theorem ct_X1_far {G : Gx} (v1 : Int) (v2 : Int) (h : Hp)   {P : (Int × Hp) → Prop} (hh : OK (X1_far v1 v2 h) P) : CT G yX1_far M_X1_far 4 0 0 FN h [aR 53, aI v1, aI v2] (fun r F' h' => F' = FN ∧ ∃ z, r = some (aI z.1) ∧ h' = z.2 ∧ P z) :=
  CT.of (by decide +kernel) rfl (Nat.le_of_ble_eq_true rfl) k_X1_far fun k0 _ _ hM => c_X1_far hM v1 v2 h (fun z hz => ⟨rfl, z, rfl, rfl, hz⟩) hh

theorem mi_X11_apart : MIv yX11_apart M_X11_apart 2 := ⟨⟨(mem_GW 1014 (by decide +kernel) rfl), (mem_GW 123 (by decide +kernel) rfl), by decide +kernel, by decide +kernel, by decide +kernel, by decide⟩, (mem_GW 1012 (by decide +kernel) rfl), (mem_GW 1013 (by decide +kernel) rfl)⟩
set_option maxRecDepth 20000 in
set_option maxHeartbeats 4000000 in
theorem c_X11_apart {k0 : K0} {G : Gx} {Qp : Option AV → Fx → Hp → Prop} (hM : MB (KM k0 0 0 Qp) G M_X11_apart 5) (v1 : Int) (v2 : Int) (h : Hp)   {P : (Int × Hp) → Prop} (hq : ∀ z : Int × Hp, P z → Qp (some (aI z.1)) FN z.2) (hh : OK (X11_apart v1 v2 h) P) : ATk (KM k0 0 0 Qp) FN 0 0 M_X11_apart 0 [some (aR 0), some (aI v1), some (aI v2)] [] h := by
  unfold X11_apart at hh
  refine A_blk hM.1 3 (lv1 := [some (aR 0), some (aI v1), some (aI v2)]) (s1 := [aI v1, aR 3]) (h1 := h) rfl ?_
  refine A_callV hM rfl rfl (mem_GW 986 (by decide +kernel) rfl) mi_X7_isBit (As := [aI v1]) (rest := []) (ct_X7_isBit v1 h (OK_bind hh)) (by decide) ⟨Nat.zero_le _, Nat.zero_le _⟩ rfl rfl (Nat.le_of_ble_eq_true rfl) (by decide) rfl (by decide) rfl (fun r F' h' hq1 => ?_)
  obtain ⟨rfl, r1, rfl, e9, hh⟩ := hq1
  subst h'
  refine A_ifc hM.1 rfl rfl (fun hc => ?_) (fun hc => ?_)
  · replace hh := OK_t hh hc
    refine A_blk hM.1 1 (lv1 := [some (aR 0), some (aI v1), some (aI v2)]) (s1 := [aI (-1)]) (h1 := h) rfl ?_
    exact A_reti hM.1 rfl rfl rfl (hq ((-1), h) hh)
  · replace hh := OK_f hh hc
    refine A_blk hM.1 3 (lv1 := [some (aR 0), some (aI v1), some (aI v2)]) (s1 := [aI v2, aR 3]) (h1 := h) rfl ?_
    refine A_callV hM rfl rfl (mem_GW 986 (by decide +kernel) rfl) mi_X7_isBit (As := [aI v2]) (rest := []) (ct_X7_isBit v2 h (OK_bind hh)) (by decide) ⟨Nat.zero_le _, Nat.zero_le _⟩ rfl rfl (Nat.le_of_ble_eq_true rfl) (by decide) rfl (by decide) rfl (fun r F' h' hq1 => ?_)
    obtain ⟨rfl, r2, rfl, e9, hh⟩ := hq1
    subst h'
    refine A_ifc hM.1 rfl rfl (fun hc => ?_) (fun hc => ?_)
    · replace hh := OK_t hh hc
      refine A_blk hM.1 1 (lv1 := [some (aR 0), some (aI v1), some (aI v2)]) (s1 := [aI (-1)]) (h1 := h) rfl ?_
      exact A_reti hM.1 rfl rfl rfl (hq ((-1), h) hh)
    · replace hh := OK_f hh hc
      refine A_blk hM.1 4 (lv1 := [some (aR 0), some (aI v1), some (aI v2)]) (s1 := [aI v2, aI v1, aR 53]) (h1 := h) rfl ?_
      refine A_callV hM rfl rfl (mem_GW 1015 (by decide +kernel) rfl) mi_X1_far (As := [aI v1, aI v2]) (rest := []) (ct_X1_far v1 v2 h (OK_bind hh)) (by decide) ⟨Nat.zero_le _, Nat.zero_le _⟩ rfl rfl (Nat.le_of_ble_eq_true rfl) (by decide) rfl (by decide) rfl (fun r F' h' hq1 => ?_)
      obtain ⟨rfl, r3, rfl, e9, hh⟩ := hq1
      subst h'
      refine A_go hM.1 rfl rfl ?_
      exact A_reti hM.1 rfl rfl rfl (hq (r3.1, r3.2) hh)

set_option maxRecDepth 20000 in
set_option maxHeartbeats 4000000 in
theorem ct_X11_apart {G : Gx} (v1 : Int) (v2 : Int) (h : Hp)   {P : (Int × Hp) → Prop} (hh : OK (X11_apart v1 v2 h) P) : CT G yX11_apart M_X11_apart 5 0 0 FN h [aR 0, aI v1, aI v2] (fun r F' h' => F' = FN ∧ ∃ z, r = some (aI z.1) ∧ h' = z.2 ∧ P z) :=
  CT.of (by decide +kernel) rfl (Nat.le_of_ble_eq_true rfl) k_X11_apart fun k0 _ _ hM => c_X11_apart hM v1 v2 h (fun z hz => ⟨rfl, z, rfl, rfl, hz⟩) hh

theorem mi_X1_find : MIv yX1_find M_X1_find 2 := ⟨⟨(mem_GW 1038 (by decide +kernel) rfl), (mem_GW 129 (by decide +kernel) rfl), by decide +kernel, by decide +kernel, by decide +kernel, by decide⟩, (mem_GW 1036 (by decide +kernel) rfl), (mem_GW 1037 (by decide +kernel) rfl)⟩
set_option maxRecDepth 20000 in
set_option maxHeartbeats 4000000 in
theorem c_X1_find_j98 {k0 : K0} {G : Gx} {Qp : Option AV → Fx → Hp → Prop} (hM : MB (KM k0 0 0 Qp) G M_X1_find 4) (v1 : Int) (v2 : Int) (v3 : Int) (v4 : Int) (v5 : Int) (v6 : Int) (v7 : Int) (v8 : Int) (h : Hp)   {P : ((Int × Int × Hp) ⊕ (Int × Hp)) → Prop} (hin : ∀ y : Int × Int × Hp, P (.inl y) → ATk (KM k0 0 0 Qp) FN 0 0 M_X1_find 57 [some (aR 53), some (aI v1), some (aI v2), some (aI v3), some (aI v4), some (aI y.1), some (aI v6), some (aI v7), some (aI y.2.1), none] [] y.2.2) (hout0 : ∀ y : Int × Hp, P (.inr y) → ATk (KM k0 0 0 Qp) FN 0 0 M_X1_find 100 [some (aR 53), some (aI v1), some (aI v2), some (aI v3), some (aI v4), some (aI y.1), some (aI v6), none, none, none] [] y.2) (hh : OK (X1_find_j98 v1 v2 v3 v4 v5 v6 v7 v8 h) P) : ATk (KM k0 0 0 Qp) FN 0 0 M_X1_find 98 [some (aR 53), some (aI v1), some (aI v2), some (aI v3), some (aI v4), some (aI v5), some (aI v6), some (aI v7), some (aI v8), none] [] h := by
  unfold X1_find_j98 at hh
  refine A_blk hM.1 1 (lv1 := [some (aR 53), some (aI v1), some (aI v2), some (aI v3), some (aI v4), some (aI v5), some (aI v6), some (aI v7), some (aI (v8 + 1)), none]) (s1 := []) (h1 := h) rfl ?_
  refine A_go hM.1 rfl rfl ?_
  exact hin (v5, v8 + 1, h) hh

set_option maxRecDepth 20000 in
set_option maxHeartbeats 4000000 in
theorem c_X1_find_j86 {k0 : K0} {G : Gx} {Qp : Option AV → Fx → Hp → Prop} (hM : MB (KM k0 0 0 Qp) G M_X1_find 4) (v1 : Int) (v2 : Int) (v3 : Int) (v4 : Int) (v6 : Int) (v7 : Int) (v8 : Int) (v9 : Int) (h : Hp)   {P : ((Int × Int × Hp) ⊕ (Int × Hp)) → Prop} (hin : ∀ y : Int × Int × Hp, P (.inl y) → ATk (KM k0 0 0 Qp) FN 0 0 M_X1_find 57 [some (aR 53), some (aI v1), some (aI v2), some (aI v3), some (aI v4), some (aI y.1), some (aI v6), some (aI v7), some (aI y.2.1), none] [] y.2.2) (hout0 : ∀ y : Int × Hp, P (.inr y) → ATk (KM k0 0 0 Qp) FN 0 0 M_X1_find 100 [some (aR 53), some (aI v1), some (aI v2), some (aI v3), some (aI v4), some (aI y.1), some (aI v6), none, none, none] [] y.2) (hh : OK (X1_find_j86 v1 v2 v3 v4 v6 v7 v8 v9 h) P) : ATk (KM k0 0 0 Qp) FN 0 0 M_X1_find 86 [some (aR 53), some (aI v1), some (aI v2), some (aI v3), some (aI v4), none, some (aI v6), some (aI v7), some (aI v8), some (aI v9)] [] h := by
  unfold X1_find_j86 at hh
  refine A_blk hM.1 6 (lv1 := [some (aR 53), some (aI v1), some (aI v2), some (aI v3), some (aI v4), some (aI v9), some (aI v6), some (aI v7), some (aI v8), some (aI v9)]) (s1 := [aI v6, aI v3, aR 57]) (h1 := h) rfl ?_
  obtain ⟨g10, hh⟩ := OK_g hh
  refine A_ast hM.1 rfl (Or.inl ⟨rfl, rfl, rfl⟩) rfl rfl rfl g10 ?_
  refine A_blk hM.1 4 (lv1 := [some (aR 53), some (aI v1), some (aI v2), some (aI v3), some (aI v4), some (aI v9), some (aI v6), some (aI v7), some (aI v8), some (aI v9)]) (s1 := [aI v8, aI v3, aR 58]) (h1 := setH h 57 ((w32 v3).toNat) v6) rfl ?_
  obtain ⟨g11, hh⟩ := OK_g hh
  refine A_ast hM.1 rfl (Or.inl ⟨rfl, rfl, rfl⟩) rfl rfl rfl g11 ?_
  refine A_mask [true, true, true, true, true, true, true, true, true, false] (lv1 := [some (aR 53), some (aI v1), some (aI v2), some (aI v3), some (aI v4), some (aI v9), some (aI v6), some (aI v7), some (aI v8), none]) rfl ?_
  exact c_X1_find_j98 hM v1 v2 v3 v4 v9 v6 v7 v8 (setH (setH h 57 ((w32 v3).toNat) v6) 58 ((w32 v3).toNat) v8) hin hout0 hh

set_option maxRecDepth 20000 in
set_option maxHeartbeats 4000000 in
theorem c_X1_find_l57 {k0 : K0} {G : Gx} {Qp : Option AV → Fx → Hp → Prop} (hM : MB (KM k0 0 0 Qp) G M_X1_find 4) (v1 : Int) (v2 : Int) (v3 : Int) (v4 : Int) (v6 : Int) (v7 : Int) (x : Int × Int × Hp)   {P : ((Int × Int × Hp) ⊕ (Int × Hp)) → Prop} (hin : ∀ y : Int × Int × Hp, P (.inl y) → ATk (KM k0 0 0 Qp) FN 0 0 M_X1_find 57 [some (aR 53), some (aI v1), some (aI v2), some (aI v3), some (aI v4), some (aI y.1), some (aI v6), some (aI v7), some (aI y.2.1), none] [] y.2.2) (hout0 : ∀ y : Int × Hp, P (.inr y) → ATk (KM k0 0 0 Qp) FN 0 0 M_X1_find 100 [some (aR 53), some (aI v1), some (aI v2), some (aI v3), some (aI v4), some (aI y.1), some (aI v6), none, none, none] [] y.2) (hh : OK (X1_find_l57 v1 v2 v3 v4 v6 v7 x) P) : ATk (KM k0 0 0 Qp) FN 0 0 M_X1_find 57 [some (aR 53), some (aI v1), some (aI v2), some (aI v3), some (aI v4), some (aI x.1), some (aI v6), some (aI v7), some (aI x.2.1), none] [] x.2.2 := by
  unfold X1_find_l57 at hh
  refine A_blk hM.1 2 (lv1 := [some (aR 53), some (aI v1), some (aI v2), some (aI v3), some (aI v4), some (aI x.1), some (aI v6), some (aI v7), some (aI x.2.1), none]) (s1 := [aI v7, aI x.2.1]) (h1 := x.2.2) rfl ?_
  refine A_icmp hM.1 rfl rfl (fun hc => ?_) (fun hc => ?_)
  · replace hh := OK_t hh hc
    refine A_mask [true, true, true, true, true, true, true, false, false, true] (lv1 := [some (aR 53), some (aI v1), some (aI v2), some (aI v3), some (aI v4), some (aI x.1), some (aI v6), none, none, none]) rfl ?_
    exact hout0 (x.1, x.2.2) hh
  · replace hh := OK_f hh hc
    refine A_blk hM.1 7 (lv1 := [some (aR 53), some (aI v1), some (aI v2), some (aI v3), some (aI v4), some (aI x.1), some (aI v6), some (aI v7), some (aI x.2.1), none]) (s1 := [aI x.2.1, aI v2, aR 3, aI v4, aI v1, aR 53]) (h1 := x.2.2) rfl ?_
    refine A_callV hM rfl rfl (mem_GW 1040 (by decide +kernel) rfl) mi_X7_workWord (As := [aI v2, aI x.2.1]) (rest := [aI v4, aI v1, aR 53]) (ct_X7_workWord v2 x.2.1 x.2.2 (OK_bind hh)) (by decide) ⟨Nat.zero_le _, Nat.zero_le _⟩ rfl rfl (Nat.le_of_ble_eq_true rfl) (by decide) rfl (by decide) rfl (fun r F' h' hq1 => ?_)
    obtain ⟨rfl, r7, rfl, e9, hh⟩ := hq1
    subst h'
    refine A_callV hM rfl rfl (mem_GW 1025 (by decide +kernel) rfl) mi_X1_advance (As := [aI v1, aI v4, aI r7]) (rest := []) (ct_X1_advance v1 v4 r7 x.2.2 (OK_bind hh)) (by decide) ⟨Nat.zero_le _, Nat.zero_le _⟩ rfl rfl (Nat.le_of_ble_eq_true rfl) (by decide) rfl (by decide) rfl (fun r F' h' hq1 => ?_)
    obtain ⟨rfl, rfl, hh⟩ := hq1
    obtain ⟨r8, rfl⟩ : ∃ z, z = h' := ⟨_, rfl⟩
    refine A_blk hM.1 3 (lv1 := [some (aR 53), some (aI v1), some (aI v2), some (aI v3), some (aI v4), some (aI x.1), some (aI v6), some (aI v7), some (aI x.2.1), none]) (s1 := [aI v4, aR 54]) (h1 := r8) rfl ?_
    refine A_callSN (host := "QuotedBooks") hM rfl rfl (mem_NW 1030 (by decide +kernel) rfl) mi_X11_at ms_X11_at (As := [aR 54, aI v4]) (rest := []) (ct_X11_at 54 9 v4 r8 rfl rfl (OK_bind hh)) (by decide) ⟨Nat.zero_le _, Nat.zero_le _⟩ rfl rfl (Nat.le_of_ble_eq_true rfl) (fun r F' h' hq1 => ?_)
    obtain ⟨rfl, r9, rfl, e9, hh⟩ := hq1
    subst h'
    refine A_blk hM.1 3 (lv1 := [some (aR 53), some (aI v1), some (aI v2), some (aI v3), some (aI v4), some (aI x.1), some (aI v6), some (aI v7), some (aI x.2.1), some (aI r9)]) (s1 := [aI x.1, aI r9]) (h1 := r8) rfl ?_
    refine A_icmp hM.1 rfl rfl (fun hc => ?_) (fun hc => ?_)
    · replace hh := OK_t hh hc
      refine A_mask [true, true, true, true, true, false, true, true, true, true] (lv1 := [some (aR 53), some (aI v1), some (aI v2), some (aI v3), some (aI v4), none, some (aI v6), some (aI v7), some (aI x.2.1), some (aI r9)]) rfl ?_
      exact c_X1_find_j86 hM v1 v2 v3 v4 v6 v7 x.2.1 r9 r8 hin hout0 hh
    · replace hh := OK_f hh hc
      refine A_blk hM.1 2 (lv1 := [some (aR 53), some (aI v1), some (aI v2), some (aI v3), some (aI v4), some (aI x.1), some (aI v6), some (aI v7), some (aI x.2.1), some (aI r9)]) (s1 := [aI x.1, aI r9]) (h1 := r8) rfl ?_
      refine A_icmp hM.1 rfl rfl (fun hc => ?_) (fun hc => ?_)
      · replace hh := OK_t hh hc
        refine A_mask [true, true, true, true, true, true, true, true, true, false] (lv1 := [some (aR 53), some (aI v1), some (aI v2), some (aI v3), some (aI v4), some (aI x.1), some (aI v6), some (aI v7), some (aI x.2.1), none]) rfl ?_
        exact c_X1_find_j98 hM v1 v2 v3 v4 x.1 v6 v7 x.2.1 r8 hin hout0 hh
      · replace hh := OK_f hh hc
        refine A_blk hM.1 3 (lv1 := [some (aR 53), some (aI v1), some (aI v2), some (aI v3), some (aI v4), some (aI x.1), some (aI v6), some (aI v7), some (aI x.2.1), some (aI r9)]) (s1 := [aI v3, aR 57]) (h1 := r8) rfl ?_
        obtain ⟨g12, hh⟩ := OK_g hh
        refine A_ald hM.1 rfl (Or.inl ⟨rfl, rfl⟩) rfl (by decide) rfl g12 ?_
        refine A_blk hM.1 1 (lv1 := [some (aR 53), some (aI v1), some (aI v2), some (aI v3), some (aI v4), some (aI x.1), some (aI v6), some (aI v7), some (aI x.2.1), some (aI r9)]) (s1 := [aI v6, aI (r8 57 ((w32 v3).toNat))]) (h1 := r8) rfl ?_
        refine A_icmp hM.1 rfl rfl (fun hc => ?_) (fun hc => ?_)
        · replace hh := OK_t hh hc
          refine A_mask [true, true, true, true, true, true, true, true, true, false] (lv1 := [some (aR 53), some (aI v1), some (aI v2), some (aI v3), some (aI v4), some (aI x.1), some (aI v6), some (aI v7), some (aI x.2.1), none]) rfl ?_
          exact c_X1_find_j98 hM v1 v2 v3 v4 x.1 v6 v7 x.2.1 r8 hin hout0 hh
        · replace hh := OK_f hh hc
          refine A_mask [true, true, true, true, true, false, true, true, true, true] (lv1 := [some (aR 53), some (aI v1), some (aI v2), some (aI v3), some (aI v4), none, some (aI v6), some (aI v7), some (aI x.2.1), some (aI r9)]) rfl ?_
          exact c_X1_find_j86 hM v1 v2 v3 v4 v6 v7 x.2.1 r9 r8 hin hout0 hh

set_option maxRecDepth 20000 in
set_option maxHeartbeats 4000000 in
theorem c_X1_find_l35 {k0 : K0} {G : Gx} {Qp : Option AV → Fx → Hp → Prop} (hM : MB (KM k0 0 0 Qp) G M_X1_find 4) (v1 : Int) (v2 : Int) (v3 : Int) (v4 : Int) (x : Int × Int × Hp)   {P : ((Int × Int × Hp) ⊕ (Int × Hp)) → Prop} (hin : ∀ y : Int × Int × Hp, P (.inl y) → ATk (KM k0 0 0 Qp) FN 0 0 M_X1_find 35 [some (aR 53), some (aI v1), some (aI v2), some (aI v3), some (aI v4), some (aI y.1), some (aI y.2.1), none, none, none] [] y.2.2) (hout0 : ∀ y : Int × Hp, P (.inr y) → ATk (KM k0 0 0 Qp) FN 0 0 M_X1_find 102 [some (aR 53), none, none, some (aI v3), none, some (aI y.1), none, none, none, none] [] y.2) (hh : OK (X1_find_l35 v1 v2 v3 v4 x) P) : ATk (KM k0 0 0 Qp) FN 0 0 M_X1_find 35 [some (aR 53), some (aI v1), some (aI v2), some (aI v3), some (aI v4), some (aI x.1), some (aI x.2.1), none, none, none] [] x.2.2 := by
  unfold X1_find_l35 at hh
  refine A_blk hM.1 4 (lv1 := [some (aR 53), some (aI v1), some (aI v2), some (aI v3), some (aI v4), some (aI x.1), some (aI x.2.1), none, none, none]) (s1 := [aI v2, aR 3, aI x.2.1]) (h1 := x.2.2) rfl ?_
  refine A_callV hM rfl rfl (mem_GW 1039 (by decide +kernel) rfl) mi_X7_wordsLeft (As := [aI v2]) (rest := [aI x.2.1]) (ct_X7_wordsLeft v2 x.2.2 (OK_bind hh)) (by decide) ⟨Nat.zero_le _, Nat.zero_le _⟩ rfl rfl (Nat.le_of_ble_eq_true rfl) (by decide) rfl (by decide) rfl (fun r F' h' hq1 => ?_)
  obtain ⟨rfl, r4, rfl, e9, hh⟩ := hq1
  subst h'
  refine A_icmp hM.1 rfl rfl (fun hc => ?_) (fun hc => ?_)
  · replace hh := OK_t hh hc
    refine A_mask [true, false, false, true, false, true, false, true, true, true] (lv1 := [some (aR 53), none, none, some (aI v3), none, some (aI x.1), none, none, none, none]) rfl ?_
    exact hout0 (x.1, x.2.2) hh
  · replace hh := OK_f hh hc
    refine A_blk hM.1 3 (lv1 := [some (aR 53), some (aI v1), some (aI v2), some (aI v3), some (aI v4), some (aI x.1), some (aI x.2.1), none, none, none]) (s1 := [aI v2, aR 3]) (h1 := x.2.2) rfl ?_
    refine A_callV hM rfl rfl (mem_GW 1039 (by decide +kernel) rfl) mi_X7_wordsLeft (As := [aI v2]) (rest := []) (ct_X7_wordsLeft v2 x.2.2 (OK_bind hh)) (by decide) ⟨Nat.zero_le _, Nat.zero_le _⟩ rfl rfl (Nat.le_of_ble_eq_true rfl) (by decide) rfl (by decide) rfl (fun r F' h' hq1 => ?_)
    obtain ⟨rfl, r5, rfl, e9, hh⟩ := hq1
    subst h'
    refine A_blk hM.1 5 (lv1 := [some (aR 53), some (aI v1), some (aI v2), some (aI v3), some (aI v4), some (aI x.1), some (aI x.2.1), none, none, none]) (s1 := [aI (x.2.1 + (2 * v4)), aI r5]) (h1 := x.2.2) rfl ?_
    refine A_min hM rfl rfl (mem_GW 1029 (by decide +kernel) rfl) (by decide) (Nat.le_of_ble_eq_true rfl) ⟨Nat.zero_le _, Nat.zero_le _⟩ ?_
    refine A_blk hM.1 3 (lv1 := [some (aR 53), some (aI v1), some (aI v2), some (aI v3), some (aI v4), some (aI x.1), some (aI x.2.1), some (aI (minI r5 (x.2.1 + (2 * v4)))), none, none]) (s1 := [aI v4, aR 53]) (h1 := x.2.2) rfl ?_
    refine A_callV hM rfl rfl (mem_GW 1020 (by decide +kernel) rfl) mi_X1_startRow (As := [aI v4]) (rest := []) (ct_X1_startRow v4 x.2.2 (OK_bind hh)) (by decide) ⟨Nat.zero_le _, Nat.zero_le _⟩ rfl rfl (Nat.le_of_ble_eq_true rfl) (by decide) rfl (by decide) rfl (fun r F' h' hq1 => ?_)
    obtain ⟨rfl, rfl, hh⟩ := hq1
    obtain ⟨r6, rfl⟩ : ∃ z, z = h' := ⟨_, rfl⟩
    refine A_blk hM.1 2 (lv1 := [some (aR 53), some (aI v1), some (aI v2), some (aI v3), some (aI v4), some (aI x.1), some (aI x.2.1), some (aI (minI r5 (x.2.1 + (2 * v4)))), some (aI x.2.1), none]) (s1 := []) (h1 := r6) rfl ?_
    refine iter_ok (s := (x.1, x.2.1, r6)) (Gp := fun z => ATk (KM k0 0 0 Qp) FN 0 0 M_X1_find 57 [some (aR 53), some (aI v1), some (aI v2), some (aI v3), some (aI v4), some (aI z.1), some (aI x.2.1), some (aI (minI r5 (x.2.1 + (2 * v4)))), some (aI z.2.1), none] [] z.2.2) (E := fun z => ATk (KM k0 0 0 Qp) FN 0 0 M_X1_find 100 [some (aR 53), some (aI v1), some (aI v2), some (aI v3), some (aI v4), some (aI z.1), some (aI x.2.1), none, none, none] [] z.2) (fun z P1 g1 g2 g3 => c_X1_find_l57 hM v1 v2 v3 v4 x.2.1 (minI r5 (x.2.1 + (2 * v4))) z g2 g3 g1) (OK_bind hh) (fun x13 hh => ?_)
    refine A_blk hM.1 1 (lv1 := [some (aR 53), some (aI v1), some (aI v2), some (aI v3), some (aI v4), some (aI x13.1), some (aI (x.2.1 + 1)), none, none, none]) (s1 := []) (h1 := x13.2) rfl ?_
    refine A_go hM.1 rfl rfl ?_
    exact hin (x13.1, x.2.1 + 1, x13.2) hh

set_option maxRecDepth 20000 in
set_option maxHeartbeats 4000000 in
theorem c_X1_find {k0 : K0} {G : Gx} {Qp : Option AV → Fx → Hp → Prop} (hM : MB (KM k0 0 0 Qp) G M_X1_find 4) (v1 : Int) (v2 : Int) (h : Hp)   {P : Hp → Prop} (hq : ∀ z : Hp, P z → Qp none FN z) (hh : OK (X1_find v1 v2 h) P) : ATk (KM k0 0 0 Qp) FN 0 0 M_X1_find 0 [some (aR 53), some (aI v1), some (aI v2), none, none, none, none, none, none, none] [] h := by
  unfold X1_find at hh
  refine A_blk hM.1 7 (lv1 := [some (aR 53), some (aI v1), some (aI v2), some (aI ((v1 * 8) + v2)), none, none, none, none, none, none]) (s1 := [aI ((v1 * 8) + v2)]) (h1 := h) rfl ?_
  refine A_ifc hM.1 rfl rfl (fun hc => ?_) (fun hc => ?_)
  · replace hh := OK_t hh hc
    exact A_retv hM.1 rfl rfl rfl (hq h hh)
  · replace hh := OK_f hh hc
    refine A_blk hM.1 3 (lv1 := [some (aR 53), some (aI v1), some (aI v2), some (aI ((v1 * 8) + v2)), none, none, none, none, none, none]) (s1 := [aR 55, aI ((v1 * 8) + v2)]) (h1 := h) rfl ?_
    refine A_alen hM.1 rfl (Or.inr (Or.inr (Or.inl rfl))) rfl (by decide) rfl ?_
    refine A_icmp hM.1 rfl rfl (fun hc => ?_) (fun hc => ?_)
    · replace hh := OK_t hh hc
      exact A_retv hM.1 rfl rfl rfl (hq h hh)
    · replace hh := OK_f hh hc
      refine A_blk hM.1 3 (lv1 := [some (aR 53), some (aI v1), some (aI v2), some (aI ((v1 * 8) + v2)), none, none, none, none, none, none]) (s1 := [aI ((v1 * 8) + v2), aR 55]) (h1 := h) rfl ?_
      obtain ⟨g1, hh⟩ := OK_g hh
      refine A_ald hM.1 rfl (Or.inr ⟨rfl, (Or.inr rfl)⟩) rfl (by decide) rfl g1 ?_
      refine A_ifc hM.1 rfl rfl (fun hc => ?_) (fun hc => ?_)
      · replace hh := OK_t hh hc
        refine A_blk hM.1 4 (lv1 := [some (aR 53), some (aI v1), some (aI v2), some (aI ((v1 * 8) + v2)), none, none, none, none, none, none]) (s1 := [aI 1, aI ((v1 * 8) + v2), aR 55]) (h1 := h) rfl ?_
        obtain ⟨g2, hh⟩ := OK_g hh
        refine A_ast hM.1 rfl (Or.inr (Or.inr ⟨rfl, rfl, rfl⟩)) rfl rfl rfl g2 ?_
        refine A_blk hM.1 3 (lv1 := [some (aR 53), some (aI v1), some (aI v2), some (aI ((v1 * 8) + v2)), none, none, none, none, none, none]) (s1 := [aI v1, aR 3]) (h1 := setH h 55 ((w32 ((v1 * 8) + v2)).toNat) (z1 1)) rfl ?_
        refine A_callV hM rfl rfl (mem_GW 1019 (by decide +kernel) rfl) mi_X7_bitSize (As := [aI v1]) (rest := []) (ct_X7_bitSize v1 (setH h 55 ((w32 ((v1 * 8) + v2)).toNat) (z1 1)) (OK_bind hh)) (by decide) ⟨Nat.zero_le _, Nat.zero_le _⟩ rfl rfl (Nat.le_of_ble_eq_true rfl) (by decide) rfl (by decide) rfl (fun r F' h' hq1 => ?_)
        obtain ⟨rfl, r3, rfl, e9, hh⟩ := hq1
        subst h'
        refine A_blk hM.1 7 (lv1 := [some (aR 53), some (aI v1), some (aI v2), some (aI ((v1 * 8) + v2)), some (aI r3), some (aI (r3 + 1)), some (aI 0), none, none, none]) (s1 := []) (h1 := setH h 55 ((w32 ((v1 * 8) + v2)).toNat) (z1 1)) rfl ?_
        refine iter_ok (s := (r3 + 1, 0, setH h 55 ((w32 ((v1 * 8) + v2)).toNat) (z1 1))) (Gp := fun z => ATk (KM k0 0 0 Qp) FN 0 0 M_X1_find 35 [some (aR 53), some (aI v1), some (aI v2), some (aI ((v1 * 8) + v2)), some (aI r3), some (aI z.1), some (aI z.2.1), none, none, none] [] z.2.2) (E := fun z => ATk (KM k0 0 0 Qp) FN 0 0 M_X1_find 102 [some (aR 53), none, none, some (aI ((v1 * 8) + v2)), none, some (aI z.1), none, none, none, none] [] z.2) (fun z P1 g1 g2 g3 => c_X1_find_l35 hM v1 v2 ((v1 * 8) + v2) r3 z g2 g3 g1) (OK_bind hh) (fun x14 hh => ?_)
        refine A_blk hM.1 4 (lv1 := [some (aR 53), none, none, some (aI ((v1 * 8) + v2)), none, some (aI x14.1), none, none, none, none]) (s1 := [aI x14.1, aI ((v1 * 8) + v2), aR 56]) (h1 := x14.2) rfl ?_
        obtain ⟨g15, hh⟩ := OK_g hh
        refine A_ast hM.1 rfl (Or.inl ⟨rfl, rfl, rfl⟩) rfl rfl rfl g15 ?_
        exact A_retv hM.1 rfl rfl rfl (hq (setH x14.2 56 ((w32 ((v1 * 8) + v2)).toNat) x14.1) hh)
      · replace hh := OK_f hh hc
        exact A_retv hM.1 rfl rfl rfl (hq h hh)

set_option maxRecDepth 20000 in
set_option maxHeartbeats 4000000 in
theorem ct_X1_find {G : Gx} (v1 : Int) (v2 : Int) (h : Hp)   {P : Hp → Prop} (hh : OK (X1_find v1 v2 h) P) : CT G yX1_find M_X1_find 4 0 0 FN h [aR 53, aI v1, aI v2] (fun r F' h' => F' = FN ∧ r = none ∧ P h') :=
  CT.of (by decide +kernel) rfl (Nat.le_of_ble_eq_true rfl) k_X1_find fun k0 _ _ hM => c_X1_find hM v1 v2 h (fun z hz => ⟨rfl, rfl, hz⟩) hh

theorem mi_X1_leastFar : MIv yX1_leastFar M_X1_leastFar 2 := ⟨⟨(mem_GW 1044 (by decide +kernel) rfl), (mem_GW 129 (by decide +kernel) rfl), by decide +kernel, by decide +kernel, by decide +kernel, by decide⟩, (mem_GW 1042 (by decide +kernel) rfl), (mem_GW 1043 (by decide +kernel) rfl)⟩
set_option maxRecDepth 20000 in
set_option maxHeartbeats 4000000 in
theorem c_X1_leastFar {k0 : K0} {G : Gx} {Qp : Option AV → Fx → Hp → Prop} (hM : MB (KM k0 0 0 Qp) G M_X1_leastFar 2) (v1 : Int) (v2 : Int) (h : Hp)   {P : Int → Prop} (hq : ∀ z : Int, P z → Qp (some (aI z)) FN h) (hh : OK (X1_leastFar v1 v2 h) P) : ATk (KM k0 0 0 Qp) FN 0 0 M_X1_leastFar 0 [some (aR 53), some (aI v1), some (aI v2)] [] h := by
  unfold X1_leastFar at hh
  refine A_blk hM.1 7 (lv1 := [some (aR 53), some (aI v1), some (aI v2)]) (s1 := [aI ((v1 * 8) + v2), aR 56]) (h1 := h) rfl ?_
  refine A_callSN (host := "QuotedBooks") hM rfl rfl (mem_NW 1030 (by decide +kernel) rfl) mi_X11_at ms_X11_at (As := [aR 56, aI ((v1 * 8) + v2)]) (rest := []) (ct_X11_at 56 320 ((v1 * 8) + v2) h rfl rfl (OK_bind hh)) (by decide) ⟨Nat.zero_le _, Nat.zero_le _⟩ rfl rfl (Nat.le_of_ble_eq_true rfl) (fun r F' h' hq1 => ?_)
  obtain ⟨rfl, r1, rfl, e9, hh⟩ := hq1
  subst h'
  exact A_reti hM.1 rfl rfl rfl (hq r1 hh)

set_option maxRecDepth 20000 in
set_option maxHeartbeats 4000000 in
theorem ct_X1_leastFar {G : Gx} (v1 : Int) (v2 : Int) (h : Hp)   {P : Int → Prop} (hh : OK (X1_leastFar v1 v2 h) P) : CT G yX1_leastFar M_X1_leastFar 2 0 0 FN h [aR 53, aI v1, aI v2] (fun r F' h' => F' = FN ∧ ∃ z, r = some (aI z) ∧ h' = h ∧ P z) :=
  CT.of (by decide +kernel) rfl (Nat.le_of_ble_eq_true rfl) k_X1_leastFar fun k0 _ _ hM => c_X1_leastFar hM v1 v2 h (fun z hz => ⟨rfl, z, rfl, rfl, hz⟩) hh

theorem mi_X1_firstPlace : MIv yX1_firstPlace M_X1_firstPlace 2 := ⟨⟨(mem_GW 1048 (by decide +kernel) rfl), (mem_GW 129 (by decide +kernel) rfl), by decide +kernel, by decide +kernel, by decide +kernel, by decide⟩, (mem_GW 1046 (by decide +kernel) rfl), (mem_GW 1047 (by decide +kernel) rfl)⟩
set_option maxRecDepth 20000 in
set_option maxHeartbeats 4000000 in
theorem c_X1_firstPlace {k0 : K0} {G : Gx} {Qp : Option AV → Fx → Hp → Prop} (hM : MB (KM k0 0 0 Qp) G M_X1_firstPlace 2) (v1 : Int) (v2 : Int) (h : Hp)   {P : Int → Prop} (hq : ∀ z : Int, P z → Qp (some (aI z)) FN h) (hh : OK (X1_firstPlace v1 v2 h) P) : ATk (KM k0 0 0 Qp) FN 0 0 M_X1_firstPlace 0 [some (aR 53), some (aI v1), some (aI v2)] [] h := by
  unfold X1_firstPlace at hh
  refine A_blk hM.1 7 (lv1 := [some (aR 53), some (aI v1), some (aI v2)]) (s1 := [aI ((v1 * 8) + v2), aR 57]) (h1 := h) rfl ?_
  refine A_callSN (host := "QuotedBooks") hM rfl rfl (mem_NW 1030 (by decide +kernel) rfl) mi_X11_at ms_X11_at (As := [aR 57, aI ((v1 * 8) + v2)]) (rest := []) (ct_X11_at 57 320 ((v1 * 8) + v2) h rfl rfl (OK_bind hh)) (by decide) ⟨Nat.zero_le _, Nat.zero_le _⟩ rfl rfl (Nat.le_of_ble_eq_true rfl) (fun r F' h' hq1 => ?_)
  obtain ⟨rfl, r1, rfl, e9, hh⟩ := hq1
  subst h'
  exact A_reti hM.1 rfl rfl rfl (hq r1 hh)

set_option maxRecDepth 20000 in
set_option maxHeartbeats 4000000 in
theorem ct_X1_firstPlace {G : Gx} (v1 : Int) (v2 : Int) (h : Hp)   {P : Int → Prop} (hh : OK (X1_firstPlace v1 v2 h) P) : CT G yX1_firstPlace M_X1_firstPlace 2 0 0 FN h [aR 53, aI v1, aI v2] (fun r F' h' => F' = FN ∧ ∃ z, r = some (aI z) ∧ h' = h ∧ P z) :=
  CT.of (by decide +kernel) rfl (Nat.le_of_ble_eq_true rfl) k_X1_firstPlace fun k0 _ _ hM => c_X1_firstPlace hM v1 v2 h (fun z hz => ⟨rfl, z, rfl, rfl, hz⟩) hh

theorem mi_X1_lastPlace : MIv yX1_lastPlace M_X1_lastPlace 2 := ⟨⟨(mem_GW 1052 (by decide +kernel) rfl), (mem_GW 129 (by decide +kernel) rfl), by decide +kernel, by decide +kernel, by decide +kernel, by decide⟩, (mem_GW 1050 (by decide +kernel) rfl), (mem_GW 1051 (by decide +kernel) rfl)⟩
set_option maxRecDepth 20000 in
set_option maxHeartbeats 4000000 in
theorem c_X1_lastPlace {k0 : K0} {G : Gx} {Qp : Option AV → Fx → Hp → Prop} (hM : MB (KM k0 0 0 Qp) G M_X1_lastPlace 2) (v1 : Int) (v2 : Int) (h : Hp)   {P : Int → Prop} (hq : ∀ z : Int, P z → Qp (some (aI z)) FN h) (hh : OK (X1_lastPlace v1 v2 h) P) : ATk (KM k0 0 0 Qp) FN 0 0 M_X1_lastPlace 0 [some (aR 53), some (aI v1), some (aI v2)] [] h := by
  unfold X1_lastPlace at hh
  refine A_blk hM.1 7 (lv1 := [some (aR 53), some (aI v1), some (aI v2)]) (s1 := [aI ((v1 * 8) + v2), aR 58]) (h1 := h) rfl ?_
  refine A_callSN (host := "QuotedBooks") hM rfl rfl (mem_NW 1030 (by decide +kernel) rfl) mi_X11_at ms_X11_at (As := [aR 58, aI ((v1 * 8) + v2)]) (rest := []) (ct_X11_at 58 320 ((v1 * 8) + v2) h rfl rfl (OK_bind hh)) (by decide) ⟨Nat.zero_le _, Nat.zero_le _⟩ rfl rfl (Nat.le_of_ble_eq_true rfl) (fun r F' h' hq1 => ?_)
  obtain ⟨rfl, r1, rfl, e9, hh⟩ := hq1
  subst h'
  exact A_reti hM.1 rfl rfl rfl (hq r1 hh)

set_option maxRecDepth 20000 in
set_option maxHeartbeats 4000000 in
theorem ct_X1_lastPlace {G : Gx} (v1 : Int) (v2 : Int) (h : Hp)   {P : Int → Prop} (hh : OK (X1_lastPlace v1 v2 h) P) : CT G yX1_lastPlace M_X1_lastPlace 2 0 0 FN h [aR 53, aI v1, aI v2] (fun r F' h' => F' = FN ∧ ∃ z, r = some (aI z) ∧ h' = h ∧ P z) :=
  CT.of (by decide +kernel) rfl (Nat.le_of_ble_eq_true rfl) k_X1_lastPlace fun k0 _ _ hM => c_X1_lastPlace hM v1 v2 h (fun z hz => ⟨rfl, z, rfl, rfl, hz⟩) hh

theorem mi_X1_thousandths : MIv yX1_thousandths M_X1_thousandths 2 := ⟨⟨(mem_GW 1056 (by decide +kernel) rfl), (mem_GW 129 (by decide +kernel) rfl), by decide +kernel, by decide +kernel, by decide +kernel, by decide⟩, (mem_GW 1054 (by decide +kernel) rfl), (mem_GW 1055 (by decide +kernel) rfl)⟩
set_option maxRecDepth 20000 in
set_option maxHeartbeats 4000000 in
theorem c_X1_thousandths {k0 : K0} {G : Gx} {Qp : Option AV → Fx → Hp → Prop} (hM : MB (KM k0 0 0 Qp) G M_X1_thousandths 3) (v1 : Int) (v2 : Int) (h : Hp)   {P : Int → Prop} (hq : ∀ z : Int, P z → Qp (some (aI z)) FN h) (hh : OK (X1_thousandths v1 v2 h) P) : ATk (KM k0 0 0 Qp) FN 0 0 M_X1_thousandths 0 [some (aR 53), some (aI v1), some (aI v2), none] [] h := by
  unfold X1_thousandths at hh
  refine A_blk hM.1 3 (lv1 := [some (aR 53), some (aI v1), some (aI v2), none]) (s1 := [aI v1, aR 3]) (h1 := h) rfl ?_
  refine A_callV hM rfl rfl (mem_GW 1019 (by decide +kernel) rfl) mi_X7_bitSize (As := [aI v1]) (rest := []) (ct_X7_bitSize v1 h (OK_bind hh)) (by decide) ⟨Nat.zero_le _, Nat.zero_le _⟩ rfl rfl (Nat.le_of_ble_eq_true rfl) (by decide) rfl (by decide) rfl (fun r F' h' hq1 => ?_)
  obtain ⟨rfl, r1, rfl, e9, hh⟩ := hq1
  subst h'
  refine A_blk hM.1 3 (lv1 := [some (aR 53), some (aI v1), some (aI v2), some (aI r1)]) (s1 := [aI 1, aI r1]) (h1 := h) rfl ?_
  refine A_icmp hM.1 rfl rfl (fun hc => ?_) (fun hc => ?_)
  · replace hh := OK_t hh hc
    refine A_blk hM.1 6 (lv1 := [some (aR 53), some (aI v1), some (aI v2), some (aI r1)]) (s1 := [aI v2, aI v1, aR 53, aI r1, aI 0, aI 1000]) (h1 := h) rfl ?_
    refine A_callV hM rfl rfl (mem_GW 1057 (by decide +kernel) rfl) mi_X1_leastFar (As := [aI v1, aI v2]) (rest := [aI r1, aI 0, aI 1000]) (ct_X1_leastFar v1 v2 h (OK_bind hh)) (by decide) ⟨Nat.zero_le _, Nat.zero_le _⟩ rfl rfl (Nat.le_of_ble_eq_true rfl) (by decide) rfl (by decide) rfl (fun r F' h' hq1 => ?_)
    obtain ⟨rfl, r2, rfl, e9, hh⟩ := hq1
    subst h'
    refine A_blk hM.1 1 (lv1 := [some (aR 53), some (aI v1), some (aI v2), some (aI r1)]) (s1 := [aI (r1 - r2), aI 0, aI 1000]) (h1 := h) rfl ?_
    refine A_max hM rfl rfl (mem_GW 1058 (by decide +kernel) rfl) (by decide) (Nat.le_of_ble_eq_true rfl) ⟨Nat.zero_le _, Nat.zero_le _⟩ ?_
    refine A_blk hM.1 2 (lv1 := [some (aR 53), some (aI v1), some (aI v2), some (aI r1)]) (s1 := [aI r1, aI (1000 * (maxI 0 (r1 - r2)))]) (h1 := h) rfl ?_
    obtain ⟨g3, hh⟩ := OK_g hh
    refine A_idiv hM.1 rfl rfl g3 ?_
    exact A_reti hM.1 rfl rfl rfl (hq (div32 (1000 * (maxI 0 (r1 - r2))) r1) hh)
  · replace hh := OK_f hh hc
    refine A_blk hM.1 1 (lv1 := [some (aR 53), some (aI v1), some (aI v2), some (aI r1)]) (s1 := [aI 0]) (h1 := h) rfl ?_
    refine A_go hM.1 rfl rfl ?_
    exact A_reti hM.1 rfl rfl rfl (hq 0 hh)

set_option maxRecDepth 20000 in
set_option maxHeartbeats 4000000 in
theorem ct_X1_thousandths {G : Gx} (v1 : Int) (v2 : Int) (h : Hp)   {P : Int → Prop} (hh : OK (X1_thousandths v1 v2 h) P) : CT G yX1_thousandths M_X1_thousandths 3 0 0 FN h [aR 53, aI v1, aI v2] (fun r F' h' => F' = FN ∧ ∃ z, r = some (aI z) ∧ h' = h ∧ P z) :=
  CT.of (by decide +kernel) rfl (Nat.le_of_ble_eq_true rfl) k_X1_thousandths fun k0 _ _ hM => c_X1_thousandths hM v1 v2 h (fun z hz => ⟨rfl, z, rfl, rfl, hz⟩) hh

theorem mi_X11_near : MIv yX11_near M_X11_near 3 := ⟨⟨(mem_GW 1034 (by decide +kernel) rfl), (mem_GW 123 (by decide +kernel) rfl), by decide +kernel, by decide +kernel, by decide +kernel, by decide⟩, (mem_GW 1032 (by decide +kernel) rfl), (mem_GW 1033 (by decide +kernel) rfl)⟩
set_option maxRecDepth 20000 in
set_option maxHeartbeats 4000000 in
theorem c_X11_near {k0 : K0} {G : Gx} {Qp : Option AV → Fx → Hp → Prop} (hM : MB (KM k0 0 0 Qp) G M_X11_near 5) (v1 : Int) (v2 : Int) (v3 : Int) (h : Hp)   {P : (Int × Hp) → Prop} (hq : ∀ z : Int × Hp, P z → Qp (some (aI z.1)) FN z.2) (hh : OK (X11_near v1 v2 v3 h) P) : ATk (KM k0 0 0 Qp) FN 0 0 M_X11_near 0 [some (aR 0), some (aI v1), some (aI v2), some (aI v3)] [] h := by
  unfold X11_near at hh
  refine A_blk hM.1 3 (lv1 := [some (aR 0), some (aI v1), some (aI v2), some (aI v3)]) (s1 := [aI v1, aR 3]) (h1 := h) rfl ?_
  refine A_callV hM rfl rfl (mem_GW 986 (by decide +kernel) rfl) mi_X7_isBit (As := [aI v1]) (rest := []) (ct_X7_isBit v1 h (OK_bind hh)) (by decide) ⟨Nat.zero_le _, Nat.zero_le _⟩ rfl rfl (Nat.le_of_ble_eq_true rfl) (by decide) rfl (by decide) rfl (fun r F' h' hq1 => ?_)
  obtain ⟨rfl, r1, rfl, e9, hh⟩ := hq1
  subst h'
  refine A_ifc hM.1 rfl rfl (fun hc => ?_) (fun hc => ?_)
  · replace hh := OK_t hh hc
    refine A_blk hM.1 1 (lv1 := [some (aR 0), some (aI v1), some (aI v2), some (aI v3)]) (s1 := [aI (-1)]) (h1 := h) rfl ?_
    exact A_reti hM.1 rfl rfl rfl (hq ((-1), h) hh)
  · replace hh := OK_f hh hc
    refine A_blk hM.1 3 (lv1 := [some (aR 0), some (aI v1), some (aI v2), some (aI v3)]) (s1 := [aI v2, aR 3]) (h1 := h) rfl ?_
    refine A_callV hM rfl rfl (mem_GW 636 (by decide +kernel) rfl) mi_X7_isLeft (As := [aI v2]) (rest := []) (ct_X7_isLeft v2 h (OK_bind hh)) (by decide) ⟨Nat.zero_le _, Nat.zero_le _⟩ rfl rfl (Nat.le_of_ble_eq_true rfl) (by decide) rfl (by decide) rfl (fun r F' h' hq1 => ?_)
    obtain ⟨rfl, r2, rfl, e9, hh⟩ := hq1
    subst h'
    refine A_ifc hM.1 rfl rfl (fun hc => ?_) (fun hc => ?_)
    · replace hh := OK_t hh hc
      refine A_blk hM.1 4 (lv1 := [some (aR 0), some (aI v1), some (aI v2), some (aI v3)]) (s1 := [aI v2, aI v1, aR 53]) (h1 := h) rfl ?_
      refine A_callV hM rfl rfl (mem_GW 1035 (by decide +kernel) rfl) mi_X1_find (As := [aI v1, aI v2]) (rest := []) (ct_X1_find v1 v2 h (OK_bind hh)) (by decide) ⟨Nat.zero_le _, Nat.zero_le _⟩ rfl rfl (Nat.le_of_ble_eq_true rfl) (by decide) rfl (by decide) rfl (fun r F' h' hq1 => ?_)
      obtain ⟨rfl, rfl, hh⟩ := hq1
      obtain ⟨r3, rfl⟩ : ∃ z, z = h' := ⟨_, rfl⟩
      refine A_blk hM.1 1 (lv1 := [some (aR 0), some (aI v1), some (aI v2), some (aI v3)]) (s1 := [aI v3]) (h1 := r3) rfl ?_
      refine A_tsw hM.1 rfl [(0, 19), (1, 25), (2, 31), (3, 37)] 43 (by decide +kernel) ?_
      refine ⟨fun hc => ?_, fun hc => ?_⟩
      · replace hh := OK_t hh hc
        refine A_blk hM.1 4 (lv1 := [some (aR 0), some (aI v1), some (aI v2), some (aI v3)]) (s1 := [aI v2, aI v1, aR 53]) (h1 := r3) rfl ?_
        refine A_callV hM rfl rfl (mem_GW 1041 (by decide +kernel) rfl) mi_X1_leastFar (As := [aI v1, aI v2]) (rest := []) (ct_X1_leastFar v1 v2 r3 (OK_bind hh)) (by decide) ⟨Nat.zero_le _, Nat.zero_le _⟩ rfl rfl (Nat.le_of_ble_eq_true rfl) (by decide) rfl (by decide) rfl (fun r F' h' hq1 => ?_)
        obtain ⟨rfl, r4, rfl, e9, hh⟩ := hq1
        subst h'
        exact A_reti hM.1 rfl rfl rfl (hq (r4, r3) hh)
      replace hh := OK_f hh hc
      refine ⟨fun hc => ?_, fun hc => ?_⟩
      · replace hh := OK_t hh hc
        refine A_blk hM.1 4 (lv1 := [some (aR 0), some (aI v1), some (aI v2), some (aI v3)]) (s1 := [aI v2, aI v1, aR 53]) (h1 := r3) rfl ?_
        refine A_callV hM rfl rfl (mem_GW 1045 (by decide +kernel) rfl) mi_X1_firstPlace (As := [aI v1, aI v2]) (rest := []) (ct_X1_firstPlace v1 v2 r3 (OK_bind hh)) (by decide) ⟨Nat.zero_le _, Nat.zero_le _⟩ rfl rfl (Nat.le_of_ble_eq_true rfl) (by decide) rfl (by decide) rfl (fun r F' h' hq1 => ?_)
        obtain ⟨rfl, r5, rfl, e9, hh⟩ := hq1
        subst h'
        exact A_reti hM.1 rfl rfl rfl (hq (r5, r3) hh)
      replace hh := OK_f hh hc
      refine ⟨fun hc => ?_, fun hc => ?_⟩
      · replace hh := OK_t hh hc
        refine A_blk hM.1 4 (lv1 := [some (aR 0), some (aI v1), some (aI v2), some (aI v3)]) (s1 := [aI v2, aI v1, aR 53]) (h1 := r3) rfl ?_
        refine A_callV hM rfl rfl (mem_GW 1049 (by decide +kernel) rfl) mi_X1_lastPlace (As := [aI v1, aI v2]) (rest := []) (ct_X1_lastPlace v1 v2 r3 (OK_bind hh)) (by decide) ⟨Nat.zero_le _, Nat.zero_le _⟩ rfl rfl (Nat.le_of_ble_eq_true rfl) (by decide) rfl (by decide) rfl (fun r F' h' hq1 => ?_)
        obtain ⟨rfl, r6, rfl, e9, hh⟩ := hq1
        subst h'
        exact A_reti hM.1 rfl rfl rfl (hq (r6, r3) hh)
      replace hh := OK_f hh hc
      refine ⟨fun hc => ?_, fun hc => ?_⟩
      · replace hh := OK_t hh hc
        refine A_blk hM.1 4 (lv1 := [some (aR 0), some (aI v1), some (aI v2), some (aI v3)]) (s1 := [aI v2, aI v1, aR 53]) (h1 := r3) rfl ?_
        refine A_callV hM rfl rfl (mem_GW 1053 (by decide +kernel) rfl) mi_X1_thousandths (As := [aI v1, aI v2]) (rest := []) (ct_X1_thousandths v1 v2 r3 (OK_bind hh)) (by decide) ⟨Nat.zero_le _, Nat.zero_le _⟩ rfl rfl (Nat.le_of_ble_eq_true rfl) (by decide) rfl (by decide) rfl (fun r F' h' hq1 => ?_)
        obtain ⟨rfl, r7, rfl, e9, hh⟩ := hq1
        subst h'
        exact A_reti hM.1 rfl rfl rfl (hq (r7, r3) hh)
      replace hh := OK_f hh hc
      refine A_blk hM.1 1 (lv1 := [some (aR 0), some (aI v1), some (aI v2), some (aI v3)]) (s1 := [aI (-1)]) (h1 := r3) rfl ?_
      exact A_reti hM.1 rfl rfl rfl (hq ((-1), r3) hh)
    · replace hh := OK_f hh hc
      refine A_blk hM.1 1 (lv1 := [some (aR 0), some (aI v1), some (aI v2), some (aI v3)]) (s1 := [aI (-1)]) (h1 := h) rfl ?_
      exact A_reti hM.1 rfl rfl rfl (hq ((-1), h) hh)

set_option maxRecDepth 20000 in
set_option maxHeartbeats 4000000 in
theorem ct_X11_near {G : Gx} (v1 : Int) (v2 : Int) (v3 : Int) (h : Hp)   {P : (Int × Hp) → Prop} (hh : OK (X11_near v1 v2 v3 h) P) : CT G yX11_near M_X11_near 5 0 0 FN h [aR 0, aI v1, aI v2, aI v3] (fun r F' h' => F' = FN ∧ ∃ z, r = some (aI z.1) ∧ h' = z.2 ∧ P z) :=
  CT.of (by decide +kernel) rfl (Nat.le_of_ble_eq_true rfl) k_X11_near fun k0 _ _ hM => c_X11_near hM v1 v2 v3 h (fun z hz => ⟨rfl, z, rfl, rfl, hz⟩) hh

theorem mi_X11_nearness : MIv yX11_nearness M_X11_nearness 2 := ⟨⟨(mem_GW 1062 (by decide +kernel) rfl), (mem_GW 123 (by decide +kernel) rfl), by decide +kernel, by decide +kernel, by decide +kernel, by decide⟩, (mem_GW 1060 (by decide +kernel) rfl), (mem_GW 1061 (by decide +kernel) rfl)⟩
set_option maxRecDepth 20000 in
set_option maxHeartbeats 4000000 in
theorem c_X11_nearness_j67 {k0 : K0} {G : Gx} {Qp : Option AV → Fx → Hp → Prop} (hM : MB (KM k0 0 0 Qp) G M_X11_nearness 5) (v1 : Int) (v2 : Int) (v3 : Int) (v4 : Int) (v5 : Int) (v6 : Int) (v7 : Int) (h : Hp)   {P : ((Int × Int × Int × Int × Int × Hp) ⊕ (Int × Int × Int × Int × Hp)) → Prop} (hin : ∀ y : Int × Int × Int × Int × Int × Hp, P (.inl y) → ATk (KM k0 0 0 Qp) FN 0 0 M_X11_nearness 22 [some (aR 0), some (aI v1), some (aI v2), some (aI y.1), some (aI y.2.1), some (aI y.2.2.1), some (aI y.2.2.2.1), some (aI y.2.2.2.2.1), none, none] [] y.2.2.2.2.2) (hout0 : ∀ y : Int × Int × Int × Int × Hp, P (.inr y) → ATk (KM k0 0 0 Qp) FN 0 0 M_X11_nearness 69 [none, none, some (aI v2), some (aI y.1), some (aI y.2.1), some (aI y.2.2.1), some (aI y.2.2.2.1), none, none, none] [] y.2.2.2.2) (hh : OK (X11_nearness_j67 v1 v2 v3 v4 v5 v6 v7 h) P) : ATk (KM k0 0 0 Qp) FN 0 0 M_X11_nearness 67 [some (aR 0), some (aI v1), some (aI v2), some (aI v3), some (aI v4), some (aI v5), some (aI v6), some (aI v7), none, none] [] h := by
  unfold X11_nearness_j67 at hh
  refine A_blk hM.1 1 (lv1 := [some (aR 0), some (aI v1), some (aI v2), some (aI v3), some (aI v4), some (aI v5), some (aI v6), some (aI (v7 + 1)), none, none]) (s1 := []) (h1 := h) rfl ?_
  refine A_go hM.1 rfl rfl ?_
  exact hin (v3, v4, v5, v6, v7 + 1, h) hh

set_option maxRecDepth 20000 in
set_option maxHeartbeats 4000000 in
theorem c_X11_nearness_l22 {k0 : K0} {G : Gx} {Qp : Option AV → Fx → Hp → Prop} (hM : MB (KM k0 0 0 Qp) G M_X11_nearness 5) (v1 : Int) (v2 : Int) (x : Int × Int × Int × Int × Int × Hp)   {P : ((Int × Int × Int × Int × Int × Hp) ⊕ (Int × Int × Int × Int × Hp)) → Prop} (hin : ∀ y : Int × Int × Int × Int × Int × Hp, P (.inl y) → ATk (KM k0 0 0 Qp) FN 0 0 M_X11_nearness 22 [some (aR 0), some (aI v1), some (aI v2), some (aI y.1), some (aI y.2.1), some (aI y.2.2.1), some (aI y.2.2.2.1), some (aI y.2.2.2.2.1), none, none] [] y.2.2.2.2.2) (hout0 : ∀ y : Int × Int × Int × Int × Hp, P (.inr y) → ATk (KM k0 0 0 Qp) FN 0 0 M_X11_nearness 69 [none, none, some (aI v2), some (aI y.1), some (aI y.2.1), some (aI y.2.2.1), some (aI y.2.2.2.1), none, none, none] [] y.2.2.2.2) (hh : OK (X11_nearness_l22 v1 v2 x) P) : ATk (KM k0 0 0 Qp) FN 0 0 M_X11_nearness 22 [some (aR 0), some (aI v1), some (aI v2), some (aI x.1), some (aI x.2.1), some (aI x.2.2.1), some (aI x.2.2.2.1), some (aI x.2.2.2.2.1), none, none] [] x.2.2.2.2.2 := by
  unfold X11_nearness_l22 at hh
  refine A_blk hM.1 3 (lv1 := [some (aR 0), some (aI v1), some (aI v2), some (aI x.1), some (aI x.2.1), some (aI x.2.2.1), some (aI x.2.2.2.1), some (aI x.2.2.2.2.1), none, none]) (s1 := [aR 3, aI x.2.2.2.2.1]) (h1 := x.2.2.2.2.2) rfl ?_
  refine A_callV hM rfl rfl (mem_GW 669 (by decide +kernel) rfl) mi_X7_bits (As := []) (rest := [aI x.2.2.2.2.1]) (ct_X7_bits x.2.2.2.2.2 (OK_bind hh)) (by decide) ⟨Nat.zero_le _, Nat.zero_le _⟩ rfl rfl (Nat.le_of_ble_eq_true rfl) (by decide) rfl (by decide) rfl (fun r F' h' hq1 => ?_)
  obtain ⟨rfl, r3, rfl, e9, hh⟩ := hq1
  subst h'
  refine A_icmp hM.1 rfl rfl (fun hc => ?_) (fun hc => ?_)
  · replace hh := OK_t hh hc
    refine A_mask [false, false, true, true, true, true, true, false, true, true] (lv1 := [none, none, some (aI v2), some (aI x.1), some (aI x.2.1), some (aI x.2.2.1), some (aI x.2.2.2.1), none, none, none]) rfl ?_
    exact hout0 (x.1, x.2.1, x.2.2.1, x.2.2.2.1, x.2.2.2.2.2) hh
  · replace hh := OK_f hh hc
    refine A_blk hM.1 3 (lv1 := [some (aR 0), some (aI v1), some (aI v2), some (aI x.1), some (aI x.2.1), some (aI x.2.2.1), some (aI x.2.2.2.1), some (aI x.2.2.2.2.1), none, none]) (s1 := [aI x.2.2.2.2.1, aR 3]) (h1 := x.2.2.2.2.2) rfl ?_
    refine A_callV hM rfl rfl (mem_GW 999 (by decide +kernel) rfl) mi_X7_bitWork (As := [aI x.2.2.2.2.1]) (rest := []) (ct_X7_bitWork x.2.2.2.2.1 x.2.2.2.2.2 (OK_bind hh)) (by decide) ⟨Nat.zero_le _, Nat.zero_le _⟩ rfl rfl (Nat.le_of_ble_eq_true rfl) (by decide) rfl (by decide) rfl (fun r F' h' hq1 => ?_)
    obtain ⟨rfl, r4, rfl, e9, hh⟩ := hq1
    subst h'
    refine A_blk hM.1 4 (lv1 := [some (aR 0), some (aI v1), some (aI v2), some (aI x.1), some (aI x.2.1), some (aI x.2.2.1), some (aI x.2.2.2.1), some (aI x.2.2.2.2.1), some (aI r4), none]) (s1 := [aI x.2.2.2.2.1, aR 3]) (h1 := x.2.2.2.2.2) rfl ?_
    refine A_callV hM rfl rfl (mem_GW 995 (by decide +kernel) rfl) mi_X7_bitWriter (As := [aI x.2.2.2.2.1]) (rest := []) (ct_X7_bitWriter x.2.2.2.2.1 x.2.2.2.2.2 (OK_bind hh)) (by decide) ⟨Nat.zero_le _, Nat.zero_le _⟩ rfl rfl (Nat.le_of_ble_eq_true rfl) (by decide) rfl (by decide) rfl (fun r F' h' hq1 => ?_)
    obtain ⟨rfl, r5, rfl, e9, hh⟩ := hq1
    subst h'
    refine A_blk hM.1 1 (lv1 := [some (aR 0), some (aI v1), some (aI v2), some (aI x.1), some (aI x.2.1), some (aI x.2.2.1), some (aI x.2.2.2.1), some (aI x.2.2.2.2.1), some (aI r4), none]) (s1 := [aI v1, aI r5]) (h1 := x.2.2.2.2.2) rfl ?_
    refine A_icmp hM.1 rfl rfl (fun hc => ?_) (fun hc => ?_)
    · replace hh := OK_t hh hc
      refine A_mask [true, true, true, true, true, true, true, true, false, true] (lv1 := [some (aR 0), some (aI v1), some (aI v2), some (aI x.1), some (aI x.2.1), some (aI x.2.2.1), some (aI x.2.2.2.1), some (aI x.2.2.2.2.1), none, none]) rfl ?_
      exact c_X11_nearness_j67 hM v1 v2 x.1 x.2.1 x.2.2.1 x.2.2.2.1 x.2.2.2.2.1 x.2.2.2.2.2 hin hout0 hh
    · replace hh := OK_f hh hc
      refine A_blk hM.1 3 (lv1 := [some (aR 0), some (aI v1), some (aI v2), some (aI x.1), some (aI x.2.1), some (aI x.2.2.1), some (aI x.2.2.2.1), some (aI x.2.2.2.2.1), some (aI r4), none]) (s1 := [aI r4, aR 3]) (h1 := x.2.2.2.2.2) rfl ?_
      refine A_callV hM rfl rfl (mem_GW 636 (by decide +kernel) rfl) mi_X7_isLeft (As := [aI r4]) (rest := []) (ct_X7_isLeft r4 x.2.2.2.2.2 (OK_bind hh)) (by decide) ⟨Nat.zero_le _, Nat.zero_le _⟩ rfl rfl (Nat.le_of_ble_eq_true rfl) (by decide) rfl (by decide) rfl (fun r F' h' hq1 => ?_)
      obtain ⟨rfl, r6, rfl, e9, hh⟩ := hq1
      subst h'
      refine A_ifc hM.1 rfl rfl (fun hc => ?_) (fun hc => ?_)
      · replace hh := OK_t hh hc
        refine A_mask [true, true, true, true, true, true, true, true, false, true] (lv1 := [some (aR 0), some (aI v1), some (aI v2), some (aI x.1), some (aI x.2.1), some (aI x.2.2.1), some (aI x.2.2.2.1), some (aI x.2.2.2.2.1), none, none]) rfl ?_
        exact c_X11_nearness_j67 hM v1 v2 x.1 x.2.1 x.2.2.1 x.2.2.2.1 x.2.2.2.2.1 x.2.2.2.2.2 hin hout0 hh
      · replace hh := OK_f hh hc
        refine A_blk hM.1 4 (lv1 := [some (aR 0), some (aI v1), some (aI v2), some (aI x.1), some (aI x.2.1), some (aI x.2.2.1), some (aI x.2.2.2.1), some (aI x.2.2.2.2.1), some (aI r4), none]) (s1 := [aI r4, aI x.2.2.2.2.1, aR 53]) (h1 := x.2.2.2.2.2) rfl ?_
        refine A_callV hM rfl rfl (mem_GW 1035 (by decide +kernel) rfl) mi_X1_find (As := [aI x.2.2.2.2.1, aI r4]) (rest := []) (ct_X1_find x.2.2.2.2.1 r4 x.2.2.2.2.2 (OK_bind hh)) (by decide) ⟨Nat.zero_le _, Nat.zero_le _⟩ rfl rfl (Nat.le_of_ble_eq_true rfl) (by decide) rfl (by decide) rfl (fun r F' h' hq1 => ?_)
        obtain ⟨rfl, rfl, hh⟩ := hq1
        obtain ⟨r7, rfl⟩ : ∃ z, z = h' := ⟨_, rfl⟩
        refine A_blk hM.1 4 (lv1 := [some (aR 0), some (aI v1), some (aI v2), some (aI x.1), some (aI x.2.1), some (aI x.2.2.1), some (aI x.2.2.2.1), some (aI x.2.2.2.2.1), some (aI r4), none]) (s1 := [aI r4, aI x.2.2.2.2.1, aR 53]) (h1 := r7) rfl ?_
        refine A_callV hM rfl rfl (mem_GW 1053 (by decide +kernel) rfl) mi_X1_thousandths (As := [aI x.2.2.2.2.1, aI r4]) (rest := []) (ct_X1_thousandths x.2.2.2.2.1 r4 r7 (OK_bind hh)) (by decide) ⟨Nat.zero_le _, Nat.zero_le _⟩ rfl rfl (Nat.le_of_ble_eq_true rfl) (by decide) rfl (by decide) rfl (fun r F' h' hq1 => ?_)
        obtain ⟨rfl, r8, rfl, e9, hh⟩ := hq1
        subst h'
        refine A_blk hM.1 3 (lv1 := [some (aR 0), some (aI v1), some (aI v2), some (aI x.1), some (aI x.2.1), some (aI x.2.2.1), some (aI x.2.2.2.1), some (aI x.2.2.2.2.1), some (aI r4), some (aI r8)]) (s1 := [aI r8, aI x.1]) (h1 := r7) rfl ?_
        refine A_min hM rfl rfl (mem_GW 977 (by decide +kernel) rfl) (by decide) (Nat.le_of_ble_eq_true rfl) ⟨Nat.zero_le _, Nat.zero_le _⟩ ?_
        refine A_blk hM.1 3 (lv1 := [some (aR 0), some (aI v1), some (aI v2), some (aI (minI x.1 r8)), some (aI x.2.1), some (aI x.2.2.1), some (aI x.2.2.2.1), some (aI x.2.2.2.2.1), some (aI r4), some (aI r8)]) (s1 := [aI r8, aI x.2.1]) (h1 := r7) rfl ?_
        refine A_max hM rfl rfl (mem_GW 976 (by decide +kernel) rfl) (by decide) (Nat.le_of_ble_eq_true rfl) ⟨Nat.zero_le _, Nat.zero_le _⟩ ?_
        refine A_blk hM.1 6 (lv1 := [some (aR 0), some (aI v1), some (aI v2), some (aI (minI x.1 r8)), some (aI (maxI x.2.1 r8)), some (aI (x.2.2.1 + r8)), some (aI (x.2.2.2.1 + 1)), some (aI x.2.2.2.2.1), some (aI r4), some (aI r8)]) (s1 := []) (h1 := r7) rfl ?_
        refine A_mask [true, true, true, true, true, true, true, true, false, false] (lv1 := [some (aR 0), some (aI v1), some (aI v2), some (aI (minI x.1 r8)), some (aI (maxI x.2.1 r8)), some (aI (x.2.2.1 + r8)), some (aI (x.2.2.2.1 + 1)), some (aI x.2.2.2.2.1), none, none]) rfl ?_
        exact c_X11_nearness_j67 hM v1 v2 (minI x.1 r8) (maxI x.2.1 r8) (x.2.2.1 + r8) (x.2.2.2.1 + 1) x.2.2.2.2.1 r7 hin hout0 hh

set_option maxRecDepth 20000 in
set_option maxHeartbeats 4000000 in
theorem c_X11_nearness {k0 : K0} {G : Gx} {Qp : Option AV → Fx → Hp → Prop} (hM : MB (KM k0 0 0 Qp) G M_X11_nearness 5) (v1 : Int) (v2 : Int) (h : Hp)   {P : (Int × Hp) → Prop} (hq : ∀ z : Int × Hp, P z → Qp (some (aI z.1)) FN z.2) (hh : OK (X11_nearness v1 v2 h) P) : ATk (KM k0 0 0 Qp) FN 0 0 M_X11_nearness 0 [some (aR 0), some (aI v1), some (aI v2), none, none, none, none, none, none, none] [] h := by
  unfold X11_nearness at hh
  refine A_blk hM.1 3 (lv1 := [some (aR 0), some (aI v1), some (aI v2), none, none, none, none, none, none, none]) (s1 := [aI v1, aR 3]) (h1 := h) rfl ?_
  refine A_callV hM rfl rfl (mem_GW 665 (by decide +kernel) rfl) mi_X7_isWriter (As := [aI v1]) (rest := []) (ct_X7_isWriter v1 h (OK_bind hh)) (by decide) ⟨Nat.zero_le _, Nat.zero_le _⟩ rfl rfl (Nat.le_of_ble_eq_true rfl) (by decide) rfl (by decide) rfl (fun r F' h' hq1 => ?_)
  obtain ⟨rfl, r1, rfl, e9, hh⟩ := hq1
  subst h'
  refine A_ifc hM.1 rfl rfl (fun hc => ?_) (fun hc => ?_)
  · replace hh := OK_t hh hc
    refine A_blk hM.1 1 (lv1 := [some (aR 0), some (aI v1), some (aI v2), none, none, none, none, none, none, none]) (s1 := [aI (-1)]) (h1 := h) rfl ?_
    exact A_reti hM.1 rfl rfl rfl (hq ((-1), h) hh)
  · replace hh := OK_f hh hc
    refine A_blk hM.1 3 (lv1 := [some (aR 0), some (aI v1), some (aI v2), none, none, none, none, none, none, none]) (s1 := [aI 3, aI 0, aI v2]) (h1 := h) rfl ?_
    refine A_callS hM rfl rfl (mem_GW 576 (by decide +kernel) rfl) mi_X11_within ms_X11_within (As := [aI v2, aI 0, aI 3]) (rest := []) (ct_X11_within v2 0 3 h (OK_bind hh)) (by decide) ⟨Nat.zero_le _, Nat.zero_le _⟩ rfl rfl (Nat.le_of_ble_eq_true rfl) (fun r F' h' hq1 => ?_)
    obtain ⟨rfl, r2, rfl, e9, hh⟩ := hq1
    subst h'
    refine A_ifc hM.1 rfl rfl (fun hc => ?_) (fun hc => ?_)
    · replace hh := OK_t hh hc
      refine A_blk hM.1 10 (lv1 := [some (aR 0), some (aI v1), some (aI v2), some (aI 1000), some (aI 0), some (aI 0), some (aI 0), some (aI 0), none, none]) (s1 := []) (h1 := h) rfl ?_
      refine iter_ok (s := (1000, 0, 0, 0, 0, h)) (Gp := fun z => ATk (KM k0 0 0 Qp) FN 0 0 M_X11_nearness 22 [some (aR 0), some (aI v1), some (aI v2), some (aI z.1), some (aI z.2.1), some (aI z.2.2.1), some (aI z.2.2.2.1), some (aI z.2.2.2.2.1), none, none] [] z.2.2.2.2.2) (E := fun z => ATk (KM k0 0 0 Qp) FN 0 0 M_X11_nearness 69 [none, none, some (aI v2), some (aI z.1), some (aI z.2.1), some (aI z.2.2.1), some (aI z.2.2.2.1), none, none, none] [] z.2.2.2.2) (fun z P1 g1 g2 g3 => c_X11_nearness_l22 hM v1 v2 z g2 g3 g1) (OK_bind hh) (fun x9 hh => ?_)
      refine A_blk hM.1 2 (lv1 := [none, none, some (aI v2), some (aI x9.1), some (aI x9.2.1), some (aI x9.2.2.1), some (aI x9.2.2.2.1), none, none, none]) (s1 := [aI 3, aI v2]) (h1 := x9.2.2.2.2) rfl ?_
      refine A_icmp hM.1 rfl rfl (fun hc => ?_) (fun hc => ?_)
      · replace hh := OK_t hh hc
        refine A_blk hM.1 1 (lv1 := [none, none, some (aI v2), some (aI x9.1), some (aI x9.2.1), some (aI x9.2.2.1), some (aI x9.2.2.2.1), none, none, none]) (s1 := [aI x9.2.2.2.1]) (h1 := x9.2.2.2.2) rfl ?_
        refine A_ifc hM.1 rfl rfl (fun hc => ?_) (fun hc => ?_)
        · replace hh := OK_t hh hc
          refine A_blk hM.1 1 (lv1 := [none, none, some (aI v2), some (aI x9.1), some (aI x9.2.1), some (aI x9.2.2.1), some (aI x9.2.2.2.1), none, none, none]) (s1 := [aI v2]) (h1 := x9.2.2.2.2) rfl ?_
          refine A_ifc hM.1 rfl rfl (fun hc => ?_) (fun hc => ?_)
          · replace hh := OK_t hh hc
            refine A_blk hM.1 2 (lv1 := [none, none, some (aI v2), some (aI x9.1), some (aI x9.2.1), some (aI x9.2.2.1), some (aI x9.2.2.2.1), none, none, none]) (s1 := [aI 1, aI v2]) (h1 := x9.2.2.2.2) rfl ?_
            refine A_icmp hM.1 rfl rfl (fun hc => ?_) (fun hc => ?_)
            · replace hh := OK_t hh hc
              refine A_blk hM.1 2 (lv1 := [none, none, some (aI v2), some (aI x9.1), some (aI x9.2.1), some (aI x9.2.2.1), some (aI x9.2.2.2.1), none, none, none]) (s1 := [aI x9.2.2.2.1, aI x9.2.2.1]) (h1 := x9.2.2.2.2) rfl ?_
              obtain ⟨g10, hh⟩ := OK_g hh
              refine A_idiv hM.1 rfl rfl g10 ?_
              exact A_reti hM.1 rfl rfl rfl (hq (div32 x9.2.2.1 x9.2.2.2.1, x9.2.2.2.2) hh)
            · replace hh := OK_f hh hc
              refine A_blk hM.1 1 (lv1 := [none, none, some (aI v2), some (aI x9.1), some (aI x9.2.1), some (aI x9.2.2.1), some (aI x9.2.2.2.1), none, none, none]) (s1 := [aI x9.2.1]) (h1 := x9.2.2.2.2) rfl ?_
              refine A_go hM.1 rfl rfl ?_
              exact A_reti hM.1 rfl rfl rfl (hq (x9.2.1, x9.2.2.2.2) hh)
          · replace hh := OK_f hh hc
            refine A_blk hM.1 1 (lv1 := [none, none, some (aI v2), some (aI x9.1), some (aI x9.2.1), some (aI x9.2.2.1), some (aI x9.2.2.2.1), none, none, none]) (s1 := [aI x9.1]) (h1 := x9.2.2.2.2) rfl ?_
            refine A_go hM.1 rfl rfl ?_
            exact A_reti hM.1 rfl rfl rfl (hq (x9.1, x9.2.2.2.2) hh)
        · replace hh := OK_f hh hc
          refine A_blk hM.1 1 (lv1 := [none, none, some (aI v2), some (aI x9.1), some (aI x9.2.1), some (aI x9.2.2.1), some (aI x9.2.2.2.1), none, none, none]) (s1 := [aI (-2)]) (h1 := x9.2.2.2.2) rfl ?_
          exact A_reti hM.1 rfl rfl rfl (hq ((-2), x9.2.2.2.2) hh)
      · replace hh := OK_f hh hc
        refine A_blk hM.1 1 (lv1 := [none, none, some (aI v2), some (aI x9.1), some (aI x9.2.1), some (aI x9.2.2.1), some (aI x9.2.2.2.1), none, none, none]) (s1 := [aI x9.2.2.2.1]) (h1 := x9.2.2.2.2) rfl ?_
        exact A_reti hM.1 rfl rfl rfl (hq (x9.2.2.2.1, x9.2.2.2.2) hh)
    · replace hh := OK_f hh hc
      refine A_blk hM.1 1 (lv1 := [some (aR 0), some (aI v1), some (aI v2), none, none, none, none, none, none, none]) (s1 := [aI (-1)]) (h1 := h) rfl ?_
      exact A_reti hM.1 rfl rfl rfl (hq ((-1), h) hh)

set_option maxRecDepth 20000 in
set_option maxHeartbeats 4000000 in
theorem ct_X11_nearness {G : Gx} (v1 : Int) (v2 : Int) (h : Hp)   {P : (Int × Hp) → Prop} (hh : OK (X11_nearness v1 v2 h) P) : CT G yX11_nearness M_X11_nearness 5 0 0 FN h [aR 0, aI v1, aI v2] (fun r F' h' => F' = FN ∧ ∃ z, r = some (aI z.1) ∧ h' = z.2 ∧ P z) :=
  CT.of (by decide +kernel) rfl (Nat.le_of_ble_eq_true rfl) k_X11_nearness fun k0 _ _ hM => c_X11_nearness hM v1 v2 h (fun z hz => ⟨rfl, z, rfl, rfl, hz⟩) hh

theorem mi_X11_same : MIv yX11_same M_X11_same 2 := ⟨⟨(mem_GW 1066 (by decide +kernel) rfl), (mem_GW 123 (by decide +kernel) rfl), by decide +kernel, by decide +kernel, by decide +kernel, by decide⟩, (mem_GW 1064 (by decide +kernel) rfl), (mem_GW 1065 (by decide +kernel) rfl)⟩
set_option maxRecDepth 20000 in
set_option maxHeartbeats 4000000 in
theorem c_X11_same_j34 {k0 : K0} {G : Gx} {Qp : Option AV → Fx → Hp → Prop} (hM : MB (KM k0 0 0 Qp) G M_X11_same 5) (v1 : Int) (v2 : Int) (v3 : Int) (v5 : Int) (h : Hp)   {P : ((Int × Int × Hp) ⊕ (Int × Hp)) → Prop} (hin : ∀ y : Int × Int × Hp, P (.inl y) → ATk (KM k0 0 0 Qp) FN 0 0 M_X11_same 16 [some (aR 0), some (aI v1), some (aI v2), some (aL y.1), none, some (aI y.2.1)] [] y.2.2) (hout0 : ∀ y : Int × Hp, P (.inr y) → ATk (KM k0 0 0 Qp) FN 0 0 M_X11_same 36 [none, none, none, some (aL y.1), none, none] [] y.2) (hh : OK (X11_same_j34 v1 v2 v3 v5 h) P) : ATk (KM k0 0 0 Qp) FN 0 0 M_X11_same 34 [some (aR 0), some (aI v1), some (aI v2), some (aL v3), none, some (aI v5)] [] h := by
  unfold X11_same_j34 at hh
  refine A_blk hM.1 1 (lv1 := [some (aR 0), some (aI v1), some (aI v2), some (aL v3), none, some (aI (v5 + 1))]) (s1 := []) (h1 := h) rfl ?_
  refine A_go hM.1 rfl rfl ?_
  exact hin (v3, v5 + 1, h) hh

set_option maxRecDepth 20000 in
set_option maxHeartbeats 4000000 in
theorem c_X11_same_l16 {k0 : K0} {G : Gx} {Qp : Option AV → Fx → Hp → Prop} (hM : MB (KM k0 0 0 Qp) G M_X11_same 5) (v1 : Int) (v2 : Int) (x : Int × Int × Hp)   {P : ((Int × Int × Hp) ⊕ (Int × Hp)) → Prop} (hin : ∀ y : Int × Int × Hp, P (.inl y) → ATk (KM k0 0 0 Qp) FN 0 0 M_X11_same 16 [some (aR 0), some (aI v1), some (aI v2), some (aL y.1), none, some (aI y.2.1)] [] y.2.2) (hout0 : ∀ y : Int × Hp, P (.inr y) → ATk (KM k0 0 0 Qp) FN 0 0 M_X11_same 36 [none, none, none, some (aL y.1), none, none] [] y.2) (hh : OK (X11_same_l16 v1 v2 x) P) : ATk (KM k0 0 0 Qp) FN 0 0 M_X11_same 16 [some (aR 0), some (aI v1), some (aI v2), some (aL x.1), none, some (aI x.2.1)] [] x.2.2 := by
  unfold X11_same_l16 at hh
  refine A_blk hM.1 3 (lv1 := [some (aR 0), some (aI v1), some (aI v2), some (aL x.1), none, some (aI x.2.1)]) (s1 := [aR 3, aI x.2.1]) (h1 := x.2.2) rfl ?_
  refine A_callV hM rfl rfl (mem_GW 669 (by decide +kernel) rfl) mi_X7_bits (As := []) (rest := [aI x.2.1]) (ct_X7_bits x.2.2 (OK_bind hh)) (by decide) ⟨Nat.zero_le _, Nat.zero_le _⟩ rfl rfl (Nat.le_of_ble_eq_true rfl) (by decide) rfl (by decide) rfl (fun r F' h' hq1 => ?_)
  obtain ⟨rfl, r3, rfl, e9, hh⟩ := hq1
  subst h'
  refine A_icmp hM.1 rfl rfl (fun hc => ?_) (fun hc => ?_)
  · replace hh := OK_t hh hc
    refine A_mask [false, false, false, true, true, false] (lv1 := [none, none, none, some (aL x.1), none, none]) rfl ?_
    exact hout0 (x.1, x.2.2) hh
  · replace hh := OK_f hh hc
    refine A_blk hM.1 4 (lv1 := [some (aR 0), some (aI v1), some (aI v2), some (aL x.1), none, some (aI x.2.1)]) (s1 := [aI x.2.1, aI v1, aR 53]) (h1 := x.2.2) rfl ?_
    refine A_callV hM rfl rfl (mem_GW 1015 (by decide +kernel) rfl) mi_X1_far (As := [aI v1, aI x.2.1]) (rest := []) (ct_X1_far v1 x.2.1 x.2.2 (OK_bind hh)) (by decide) ⟨Nat.zero_le _, Nat.zero_le _⟩ rfl rfl (Nat.le_of_ble_eq_true rfl) (by decide) rfl (by decide) rfl (fun r F' h' hq1 => ?_)
    obtain ⟨rfl, r4, rfl, e9, hh⟩ := hq1
    subst h'
    refine A_blk hM.1 1 (lv1 := [some (aR 0), some (aI v1), some (aI v2), some (aL x.1), none, some (aI x.2.1)]) (s1 := [aI v2, aI r4.1]) (h1 := r4.2) rfl ?_
    refine A_icmp hM.1 rfl rfl (fun hc => ?_) (fun hc => ?_)
    · replace hh := OK_t hh hc
      exact c_X11_same_j34 hM v1 v2 x.1 x.2.1 r4.2 hin hout0 hh
    · replace hh := OK_f hh hc
      refine A_blk hM.1 6 (lv1 := [some (aR 0), some (aI v1), some (aI v2), some (aL (or64 x.1 (shl64 1 x.2.1))), none, some (aI x.2.1)]) (s1 := []) (h1 := r4.2) rfl ?_
      exact c_X11_same_j34 hM v1 v2 (or64 x.1 (shl64 1 x.2.1)) x.2.1 r4.2 hin hout0 hh

set_option maxRecDepth 20000 in
set_option maxHeartbeats 4000000 in
theorem c_X11_same {k0 : K0} {G : Gx} {Qp : Option AV → Fx → Hp → Prop} (hM : MB (KM k0 0 0 Qp) G M_X11_same 5) (v1 : Int) (v2 : Int) (h : Hp)   {P : (Int × Hp) → Prop} (hq : ∀ z : Int × Hp, P z → Qp (some (aL z.1)) FN z.2) (hh : OK (X11_same v1 v2 h) P) : ATk (KM k0 0 0 Qp) FN 0 0 M_X11_same 0 [some (aR 0), some (aI v1), some (aI v2), none, none, none] [] h := by
  unfold X11_same at hh
  refine A_blk hM.1 3 (lv1 := [some (aR 0), some (aI v1), some (aI v2), none, none, none]) (s1 := [aI v1, aR 3]) (h1 := h) rfl ?_
  refine A_callV hM rfl rfl (mem_GW 986 (by decide +kernel) rfl) mi_X7_isBit (As := [aI v1]) (rest := []) (ct_X7_isBit v1 h (OK_bind hh)) (by decide) ⟨Nat.zero_le _, Nat.zero_le _⟩ rfl rfl (Nat.le_of_ble_eq_true rfl) (by decide) rfl (by decide) rfl (fun r F' h' hq1 => ?_)
  obtain ⟨rfl, r1, rfl, e9, hh⟩ := hq1
  subst h'
  refine A_ifc hM.1 rfl rfl (fun hc => ?_) (fun hc => ?_)
  · replace hh := OK_t hh hc
    refine A_blk hM.1 1 (lv1 := [some (aR 0), some (aI v1), some (aI v2), none, none, none]) (s1 := [aL (-1)]) (h1 := h) rfl ?_
    exact A_retl hM.1 rfl rfl rfl (hq ((-1), h) hh)
  · replace hh := OK_f hh hc
    refine A_blk hM.1 3 (lv1 := [some (aR 0), some (aI v1), some (aI v2), none, none, none]) (s1 := [aI 8, aI 0, aI v2]) (h1 := h) rfl ?_
    refine A_callS hM rfl rfl (mem_GW 576 (by decide +kernel) rfl) mi_X11_within ms_X11_within (As := [aI v2, aI 0, aI 8]) (rest := []) (ct_X11_within v2 0 8 h (OK_bind hh)) (by decide) ⟨Nat.zero_le _, Nat.zero_le _⟩ rfl rfl (Nat.le_of_ble_eq_true rfl) (fun r F' h' hq1 => ?_)
    obtain ⟨rfl, r2, rfl, e9, hh⟩ := hq1
    subst h'
    refine A_ifc hM.1 rfl rfl (fun hc => ?_) (fun hc => ?_)
    · replace hh := OK_t hh hc
      refine A_blk hM.1 4 (lv1 := [some (aR 0), some (aI v1), some (aI v2), some (aL 0), none, some (aI 0)]) (s1 := []) (h1 := h) rfl ?_
      refine iter_ok (s := (0, 0, h)) (Gp := fun z => ATk (KM k0 0 0 Qp) FN 0 0 M_X11_same 16 [some (aR 0), some (aI v1), some (aI v2), some (aL z.1), none, some (aI z.2.1)] [] z.2.2) (E := fun z => ATk (KM k0 0 0 Qp) FN 0 0 M_X11_same 36 [none, none, none, some (aL z.1), none, none] [] z.2) (fun z P1 g1 g2 g3 => c_X11_same_l16 hM v1 v2 z g2 g3 g1) (OK_bind hh) (fun x5 hh => ?_)
      refine A_blk hM.1 1 (lv1 := [none, none, none, some (aL x5.1), none, none]) (s1 := [aL x5.1]) (h1 := x5.2) rfl ?_
      exact A_retl hM.1 rfl rfl rfl (hq (x5.1, x5.2) hh)
    · replace hh := OK_f hh hc
      refine A_blk hM.1 1 (lv1 := [some (aR 0), some (aI v1), some (aI v2), none, none, none]) (s1 := [aL (-1)]) (h1 := h) rfl ?_
      exact A_retl hM.1 rfl rfl rfl (hq ((-1), h) hh)

set_option maxRecDepth 20000 in
set_option maxHeartbeats 4000000 in
theorem ct_X11_same {G : Gx} (v1 : Int) (v2 : Int) (h : Hp)   {P : (Int × Hp) → Prop} (hh : OK (X11_same v1 v2 h) P) : CT G yX11_same M_X11_same 5 0 0 FN h [aR 0, aI v1, aI v2] (fun r F' h' => F' = FN ∧ ∃ z, r = some (aL z.1) ∧ h' = z.2 ∧ P z) :=
  CT.of (by decide +kernel) rfl (Nat.le_of_ble_eq_true rfl) k_X11_same fun k0 _ _ hM => c_X11_same hM v1 v2 h (fun z hz => ⟨rfl, z, rfl, rfl, hz⟩) hh

theorem mi_X1_tail : MIv yX1_tail M_X1_tail 2 := ⟨⟨(mem_GW 1083 (by decide +kernel) rfl), (mem_GW 129 (by decide +kernel) rfl), by decide +kernel, by decide +kernel, by decide +kernel, by decide⟩, (mem_GW 1082 (by decide +kernel) rfl), (mem_GW 29 (by decide +kernel) rfl)⟩
set_option maxRecDepth 20000 in
set_option maxHeartbeats 4000000 in
theorem c_X1_tail {k0 : K0} {G : Gx} {Qp : Option AV → Fx → Hp → Prop} (hM : MB (KM k0 0 0 Qp) G M_X1_tail 2) (v1 : Int) (v2 : Int) (h : Hp)   {P : Int → Prop} (hq : ∀ z : Int, P z → Qp (some (aI z)) FN h) (hh : OK (X1_tail v1 v2 h) P) : ATk (KM k0 0 0 Qp) FN 0 0 M_X1_tail 0 [some (aR 53), some (aI v1), some (aI v2)] [] h := by
  unfold X1_tail at hh
  refine A_blk hM.1 7 (lv1 := [some (aR 53), some (aI v1), some (aI v2)]) (s1 := [aI ((v1 * 9) + v2), aR 59]) (h1 := h) rfl ?_
  refine A_callSN (host := "QuotedBooks") hM rfl rfl (mem_NW 1030 (by decide +kernel) rfl) mi_X11_at ms_X11_at (As := [aR 59, aI ((v1 * 9) + v2)]) (rest := []) (ct_X11_at 59 81 ((v1 * 9) + v2) h rfl rfl (OK_bind hh)) (by decide) ⟨Nat.zero_le _, Nat.zero_le _⟩ rfl rfl (Nat.le_of_ble_eq_true rfl) (fun r F' h' hq1 => ?_)
  obtain ⟨rfl, r1, rfl, e9, hh⟩ := hq1
  subst h'
  exact A_reti hM.1 rfl rfl rfl (hq r1 hh)

set_option maxRecDepth 20000 in
set_option maxHeartbeats 4000000 in
theorem ct_X1_tail {G : Gx} (v1 : Int) (v2 : Int) (h : Hp)   {P : Int → Prop} (hh : OK (X1_tail v1 v2 h) P) : CT G yX1_tail M_X1_tail 2 0 0 FN h [aR 53, aI v1, aI v2] (fun r F' h' => F' = FN ∧ ∃ z, r = some (aI z) ∧ h' = h ∧ P z) :=
  CT.of (by decide +kernel) rfl (Nat.le_of_ble_eq_true rfl) k_X1_tail fun k0 _ _ hM => c_X1_tail hM v1 v2 h (fun z hz => ⟨rfl, z, rfl, rfl, hz⟩) hh

theorem mi_X1_fillTails : MIv yX1_fillTails M_X1_fillTails 2 := ⟨⟨(mem_GW 1079 (by decide +kernel) rfl), (mem_GW 129 (by decide +kernel) rfl), by decide +kernel, by decide +kernel, by decide +kernel, by decide⟩, (mem_GW 1078 (by decide +kernel) rfl), (mem_GW 28 (by decide +kernel) rfl)⟩
set_option maxRecDepth 20000 in
set_option maxHeartbeats 4000000 in
theorem c_X1_fillTails_l2 {k0 : K0} {G : Gx} {Qp : Option AV → Fx → Hp → Prop} (hM : MB (KM k0 0 0 Qp) G M_X1_fillTails 3) (v1 : Int) (v2 : Int) (x : Int × Hp)   {P : ((Int × Hp) ⊕ (Hp)) → Prop} (hin : ∀ y : Int × Hp, P (.inl y) → ATk (KM k0 0 0 Qp) FN 0 0 M_X1_fillTails 2 [some (aR 53), some (aI v1), some (aI v2), some (aI y.1), none, none] [] y.2) (hout0 : ∀ y : Hp, P (.inr y) → ATk (KM k0 0 0 Qp) FN 0 0 M_X1_fillTails 12 [some (aR 53), some (aI v1), some (aI v2), none, none, none] [] y) (hh : OK (X1_fillTails_l2 v1 v2 x) P) : ATk (KM k0 0 0 Qp) FN 0 0 M_X1_fillTails 2 [some (aR 53), some (aI v1), some (aI v2), some (aI x.1), none, none] [] x.2 := by
  unfold X1_fillTails_l2 at hh
  refine A_blk hM.1 2 (lv1 := [some (aR 53), some (aI v1), some (aI v2), some (aI x.1), none, none]) (s1 := [aI 81, aI x.1]) (h1 := x.2) rfl ?_
  refine A_icmp hM.1 rfl rfl (fun hc => ?_) (fun hc => ?_)
  · replace hh := OK_t hh hc
    refine A_mask [true, true, true, false, true, true] (lv1 := [some (aR 53), some (aI v1), some (aI v2), none, none, none]) rfl ?_
    exact hout0 x.2 hh
  · replace hh := OK_f hh hc
    refine A_blk hM.1 4 (lv1 := [some (aR 53), some (aI v1), some (aI v2), some (aI x.1), none, none]) (s1 := [aI 0, aI x.1, aR 59]) (h1 := x.2) rfl ?_
    obtain ⟨g1, hh⟩ := OK_g hh
    refine A_ast hM.1 rfl (Or.inl ⟨rfl, rfl, rfl⟩) rfl rfl rfl g1 ?_
    refine A_blk hM.1 1 (lv1 := [some (aR 53), some (aI v1), some (aI v2), some (aI (x.1 + 1)), none, none]) (s1 := []) (h1 := setH x.2 59 ((w32 x.1).toNat) 0) rfl ?_
    refine A_go hM.1 rfl rfl ?_
    exact hin (x.1 + 1, setH x.2 59 ((w32 x.1).toNat) 0) hh

set_option maxRecDepth 20000 in
set_option maxHeartbeats 4000000 in
theorem c_X1_fillTails_j66 {k0 : K0} {G : Gx} {Qp : Option AV → Fx → Hp → Prop} (hM : MB (KM k0 0 0 Qp) G M_X1_fillTails 3) (v1 : Int) (v2 : Int) (v3 : Int) (v4 : Int) (v5 : Int) (h : Hp)   {P : ((Int × Hp) ⊕ (Hp)) → Prop} (hin : ∀ y : Int × Hp, P (.inl y) → ATk (KM k0 0 0 Qp) FN 0 0 M_X1_fillTails 28 [some (aR 53), some (aI v1), some (aI v2), some (aI v3), some (aI y.1), none] [] y.2) (hout0 : ∀ y : Hp, P (.inr y) → ATk (KM k0 0 0 Qp) FN 0 0 M_X1_fillTails 77 [some (aR 53), some (aI v1), some (aI v2), some (aI v3), none, none] [] y) (hh : OK (X1_fillTails_j66 v1 v2 v3 v4 v5 h) P) : ATk (KM k0 0 0 Qp) FN 0 0 M_X1_fillTails 66 [some (aR 53), some (aI v1), some (aI v2), some (aI v3), some (aI v4), some (aI v5)] [] h := by
  unfold X1_fillTails_j66 at hh
  refine A_blk hM.1 8 (lv1 := [some (aR 53), some (aI v1), some (aI v2), some (aI v3), some (aI v4), some (aI v5)]) (s1 := [aI v5, aI ((v3 * 9) + v4), aR 59]) (h1 := h) rfl ?_
  refine A_callSN (host := "QuotedBooks") hM rfl rfl (mem_NW 1084 (by decide +kernel) rfl) mi_X11_put ms_X11_put (As := [aR 59, aI ((v3 * 9) + v4), aI v5]) (rest := []) (ct_X11_put 59 81 ((v3 * 9) + v4) v5 h rfl rfl (OK_bind hh)) (by decide) ⟨Nat.zero_le _, Nat.zero_le _⟩ rfl rfl (Nat.le_of_ble_eq_true rfl) (fun r F' h' hq1 => ?_)
  obtain ⟨rfl, rfl, hh⟩ := hq1
  obtain ⟨r9, rfl⟩ : ∃ z, z = h' := ⟨_, rfl⟩
  refine A_blk hM.1 1 (lv1 := [some (aR 53), some (aI v1), some (aI v2), some (aI v3), some (aI (v4 + (-1))), some (aI v5)]) (s1 := []) (h1 := r9) rfl ?_
  refine A_go hM.1 rfl rfl ?_
  refine A_mask [true, true, true, true, true, false] (lv1 := [some (aR 53), some (aI v1), some (aI v2), some (aI v3), some (aI (v4 + (-1))), none]) rfl ?_
  exact hin (v4 + (-1), r9) hh

set_option maxRecDepth 20000 in
set_option maxHeartbeats 4000000 in
theorem c_X1_fillTails_l28 {k0 : K0} {G : Gx} {Qp : Option AV → Fx → Hp → Prop} (hM : MB (KM k0 0 0 Qp) G M_X1_fillTails 3) (v1 : Int) (v2 : Int) (v3 : Int) (x : Int × Hp)   {P : ((Int × Hp) ⊕ (Hp)) → Prop} (hin : ∀ y : Int × Hp, P (.inl y) → ATk (KM k0 0 0 Qp) FN 0 0 M_X1_fillTails 28 [some (aR 53), some (aI v1), some (aI v2), some (aI v3), some (aI y.1), none] [] y.2) (hout0 : ∀ y : Hp, P (.inr y) → ATk (KM k0 0 0 Qp) FN 0 0 M_X1_fillTails 77 [some (aR 53), some (aI v1), some (aI v2), some (aI v3), none, none] [] y) (hh : OK (X1_fillTails_l28 v1 v2 v3 x) P) : ATk (KM k0 0 0 Qp) FN 0 0 M_X1_fillTails 28 [some (aR 53), some (aI v1), some (aI v2), some (aI v3), some (aI x.1), none] [] x.2 := by
  unfold X1_fillTails_l28 at hh
  refine A_blk hM.1 1 (lv1 := [some (aR 53), some (aI v1), some (aI v2), some (aI v3), some (aI x.1), none]) (s1 := [aI x.1]) (h1 := x.2) rfl ?_
  refine A_ifc hM.1 rfl rfl (fun hc => ?_) (fun hc => ?_)
  · replace hh := OK_t hh hc
    refine A_mask [true, true, true, true, false, true] (lv1 := [some (aR 53), some (aI v1), some (aI v2), some (aI v3), none, none]) rfl ?_
    exact hout0 x.2 hh
  · replace hh := OK_f hh hc
    refine A_blk hM.1 5 (lv1 := [some (aR 53), some (aI v1), some (aI v2), some (aI v3), some (aI x.1), none]) (s1 := [aI x.1, aI (v3 + 1), aR 53]) (h1 := x.2) rfl ?_
    refine A_callV hM rfl rfl (mem_GW 1080 (by decide +kernel) rfl) mi_X1_tail (As := [aI (v3 + 1), aI x.1]) (rest := []) (ct_X1_tail (v3 + 1) x.1 x.2 (OK_bind hh)) (by decide) ⟨Nat.zero_le _, Nat.zero_le _⟩ rfl rfl (Nat.le_of_ble_eq_true rfl) (by decide) rfl (by decide) rfl (fun r F' h' hq1 => ?_)
    obtain ⟨rfl, r5, rfl, e9, hh⟩ := hq1
    subst h'
    refine A_blk hM.1 5 (lv1 := [some (aR 53), some (aI v1), some (aI v2), some (aI v3), some (aI x.1), none]) (s1 := [aI (x.1 + 1), aI v3, aR 53, aI r5]) (h1 := x.2) rfl ?_
    refine A_callV hM rfl rfl (mem_GW 1080 (by decide +kernel) rfl) mi_X1_tail (As := [aI v3, aI (x.1 + 1)]) (rest := [aI r5]) (ct_X1_tail v3 (x.1 + 1) x.2 (OK_bind hh)) (by decide) ⟨Nat.zero_le _, Nat.zero_le _⟩ rfl rfl (Nat.le_of_ble_eq_true rfl) (by decide) rfl (by decide) rfl (fun r F' h' hq1 => ?_)
    obtain ⟨rfl, r6, rfl, e9, hh⟩ := hq1
    subst h'
    refine A_max hM rfl rfl (mem_GW 1058 (by decide +kernel) rfl) (by decide) (Nat.le_of_ble_eq_true rfl) ⟨Nat.zero_le _, Nat.zero_le _⟩ ?_
    refine A_blk hM.1 5 (lv1 := [some (aR 53), some (aI v1), some (aI v2), some (aI v3), some (aI x.1), some (aI (maxI r5 r6))]) (s1 := [aI v3, aI v1, aR 3]) (h1 := x.2) rfl ?_
    refine A_callV hM rfl rfl (mem_GW 1024 (by decide +kernel) rfl) mi_X7_bitWord (As := [aI v1, aI v3]) (rest := []) (ct_X7_bitWord v1 v3 x.2 (OK_bind hh)) (by decide) ⟨Nat.zero_le _, Nat.zero_le _⟩ rfl rfl (Nat.le_of_ble_eq_true rfl) (by decide) rfl (by decide) rfl (fun r F' h' hq1 => ?_)
    obtain ⟨rfl, r7, rfl, e9, hh⟩ := hq1
    subst h'
    refine A_blk hM.1 4 (lv1 := [some (aR 53), some (aI v1), some (aI v2), some (aI v3), some (aI x.1), some (aI (maxI r5 r6))]) (s1 := [aI x.1, aI v2, aR 3, aI r7]) (h1 := x.2) rfl ?_
    refine A_callV hM rfl rfl (mem_GW 1024 (by decide +kernel) rfl) mi_X7_bitWord (As := [aI v2, aI x.1]) (rest := [aI r7]) (ct_X7_bitWord v2 x.1 x.2 (OK_bind hh)) (by decide) ⟨Nat.zero_le _, Nat.zero_le _⟩ rfl rfl (Nat.le_of_ble_eq_true rfl) (by decide) rfl (by decide) rfl (fun r F' h' hq1 => ?_)
    obtain ⟨rfl, r8, rfl, e9, hh⟩ := hq1
    subst h'
    refine A_icmp hM.1 rfl rfl (fun hc => ?_) (fun hc => ?_)
    · replace hh := OK_t hh hc
      exact c_X1_fillTails_j66 hM v1 v2 v3 x.1 (maxI r5 r6) x.2 hin hout0 hh
    · replace hh := OK_f hh hc
      refine A_blk hM.1 7 (lv1 := [some (aR 53), some (aI v1), some (aI v2), some (aI v3), some (aI x.1), some (aI (maxI r5 r6))]) (s1 := [aI (x.1 + 1), aI (v3 + 1), aR 53]) (h1 := x.2) rfl ?_
      refine A_callV hM rfl rfl (mem_GW 1080 (by decide +kernel) rfl) mi_X1_tail (As := [aI (v3 + 1), aI (x.1 + 1)]) (rest := []) (ct_X1_tail (v3 + 1) (x.1 + 1) x.2 (OK_bind hh)) (by decide) ⟨Nat.zero_le _, Nat.zero_le _⟩ rfl rfl (Nat.le_of_ble_eq_true rfl) (by decide) rfl (by decide) rfl (fun r F' h' hq1 => ?_)
      obtain ⟨rfl, r10, rfl, e9, hh⟩ := hq1
      subst h'
      refine A_blk hM.1 3 (lv1 := [some (aR 53), some (aI v1), some (aI v2), some (aI v3), some (aI x.1), some (aI (r10 + 1))]) (s1 := []) (h1 := x.2) rfl ?_
      exact c_X1_fillTails_j66 hM v1 v2 v3 x.1 (r10 + 1) x.2 hin hout0 hh

set_option maxRecDepth 20000 in
set_option maxHeartbeats 4000000 in
theorem c_X1_fillTails_l19 {k0 : K0} {G : Gx} {Qp : Option AV → Fx → Hp → Prop} (hM : MB (KM k0 0 0 Qp) G M_X1_fillTails 3) (v1 : Int) (v2 : Int) (x : Int × Hp)   {P : ((Int × Hp) ⊕ (Hp)) → Prop} (hin : ∀ y : Int × Hp, P (.inl y) → ATk (KM k0 0 0 Qp) FN 0 0 M_X1_fillTails 19 [some (aR 53), some (aI v1), some (aI v2), some (aI y.1), none, none] [] y.2) (hout0 : ∀ y : Hp, P (.inr y) → ATk (KM k0 0 0 Qp) FN 0 0 M_X1_fillTails 79 [none, none, none, none, none, none] [] y) (hh : OK (X1_fillTails_l19 v1 v2 x) P) : ATk (KM k0 0 0 Qp) FN 0 0 M_X1_fillTails 19 [some (aR 53), some (aI v1), some (aI v2), some (aI x.1), none, none] [] x.2 := by
  unfold X1_fillTails_l19 at hh
  refine A_blk hM.1 1 (lv1 := [some (aR 53), some (aI v1), some (aI v2), some (aI x.1), none, none]) (s1 := [aI x.1]) (h1 := x.2) rfl ?_
  refine A_ifc hM.1 rfl rfl (fun hc => ?_) (fun hc => ?_)
  · replace hh := OK_t hh hc
    refine A_mask [false, false, false, false, true, true] (lv1 := [none, none, none, none, none, none]) rfl ?_
    exact hout0 x.2 hh
  · replace hh := OK_f hh hc
    refine A_blk hM.1 3 (lv1 := [some (aR 53), some (aI v1), some (aI v2), some (aI x.1), none, none]) (s1 := [aI v2, aR 3]) (h1 := x.2) rfl ?_
    refine A_callV hM rfl rfl (mem_GW 1019 (by decide +kernel) rfl) mi_X7_bitSize (As := [aI v2]) (rest := []) (ct_X7_bitSize v2 x.2 (OK_bind hh)) (by decide) ⟨Nat.zero_le _, Nat.zero_le _⟩ rfl rfl (Nat.le_of_ble_eq_true rfl) (by decide) rfl (by decide) rfl (fun r F' h' hq1 => ?_)
    obtain ⟨rfl, r4, rfl, e9, hh⟩ := hq1
    subst h'
    refine A_blk hM.1 3 (lv1 := [some (aR 53), some (aI v1), some (aI v2), some (aI x.1), some (aI (r4 - 1)), none]) (s1 := []) (h1 := x.2) rfl ?_
    refine iter_ok (s := (r4 - 1, x.2)) (Gp := fun z => ATk (KM k0 0 0 Qp) FN 0 0 M_X1_fillTails 28 [some (aR 53), some (aI v1), some (aI v2), some (aI x.1), some (aI z.1), none] [] z.2) (E := fun z => ATk (KM k0 0 0 Qp) FN 0 0 M_X1_fillTails 77 [some (aR 53), some (aI v1), some (aI v2), some (aI x.1), none, none] [] z) (fun z P1 g1 g2 g3 => c_X1_fillTails_l28 hM v1 v2 x.1 z g2 g3 g1) (OK_bind hh) (fun x11 hh => ?_)
    refine A_blk hM.1 1 (lv1 := [some (aR 53), some (aI v1), some (aI v2), some (aI (x.1 + (-1))), none, none]) (s1 := []) (h1 := x11) rfl ?_
    refine A_go hM.1 rfl rfl ?_
    exact hin (x.1 + (-1), x11) hh

set_option maxRecDepth 20000 in
set_option maxHeartbeats 4000000 in
theorem c_X1_fillTails {k0 : K0} {G : Gx} {Qp : Option AV → Fx → Hp → Prop} (hM : MB (KM k0 0 0 Qp) G M_X1_fillTails 3) (v1 : Int) (v2 : Int) (h : Hp)   {P : Hp → Prop} (hq : ∀ z : Hp, P z → Qp none FN z) (hh : OK (X1_fillTails v1 v2 h) P) : ATk (KM k0 0 0 Qp) FN 0 0 M_X1_fillTails 0 [some (aR 53), some (aI v1), some (aI v2), none, none, none] [] h := by
  unfold X1_fillTails at hh
  refine A_blk hM.1 2 (lv1 := [some (aR 53), some (aI v1), some (aI v2), some (aI 0), none, none]) (s1 := []) (h1 := h) rfl ?_
  refine iter_ok (s := (0, h)) (Gp := fun z => ATk (KM k0 0 0 Qp) FN 0 0 M_X1_fillTails 2 [some (aR 53), some (aI v1), some (aI v2), some (aI z.1), none, none] [] z.2) (E := fun z => ATk (KM k0 0 0 Qp) FN 0 0 M_X1_fillTails 12 [some (aR 53), some (aI v1), some (aI v2), none, none, none] [] z) (fun z P1 g1 g2 g3 => c_X1_fillTails_l2 hM v1 v2 z g2 g3 g1) (OK_bind hh) (fun x2 hh => ?_)
  refine A_blk hM.1 3 (lv1 := [some (aR 53), some (aI v1), some (aI v2), none, none, none]) (s1 := [aI v1, aR 3]) (h1 := x2) rfl ?_
  refine A_callV hM rfl rfl (mem_GW 1019 (by decide +kernel) rfl) mi_X7_bitSize (As := [aI v1]) (rest := []) (ct_X7_bitSize v1 x2 (OK_bind hh)) (by decide) ⟨Nat.zero_le _, Nat.zero_le _⟩ rfl rfl (Nat.le_of_ble_eq_true rfl) (by decide) rfl (by decide) rfl (fun r F' h' hq1 => ?_)
  obtain ⟨rfl, r3, rfl, e9, hh⟩ := hq1
  subst h'
  refine A_blk hM.1 3 (lv1 := [some (aR 53), some (aI v1), some (aI v2), some (aI (r3 - 1)), none, none]) (s1 := []) (h1 := x2) rfl ?_
  refine iter_ok (s := (r3 - 1, x2)) (Gp := fun z => ATk (KM k0 0 0 Qp) FN 0 0 M_X1_fillTails 19 [some (aR 53), some (aI v1), some (aI v2), some (aI z.1), none, none] [] z.2) (E := fun z => ATk (KM k0 0 0 Qp) FN 0 0 M_X1_fillTails 79 [none, none, none, none, none, none] [] z) (fun z P1 g1 g2 g3 => c_X1_fillTails_l19 hM v1 v2 z g2 g3 g1) (OK_bind hh) (fun x12 hh => ?_)
  exact A_retv hM.1 rfl rfl rfl (hq x12 hh)

set_option maxRecDepth 20000 in
set_option maxHeartbeats 4000000 in
theorem ct_X1_fillTails {G : Gx} (v1 : Int) (v2 : Int) (h : Hp)   {P : Hp → Prop} (hh : OK (X1_fillTails v1 v2 h) P) : CT G yX1_fillTails M_X1_fillTails 3 0 0 FN h [aR 53, aI v1, aI v2] (fun r F' h' => F' = FN ∧ r = none ∧ P h') :=
  CT.of (by decide +kernel) rfl (Nat.le_of_ble_eq_true rfl) k_X1_fillTails fun k0 _ _ hM => c_X1_fillTails hM v1 v2 h (fun z hz => ⟨rfl, rfl, hz⟩) hh

theorem mi_X1_firstOf : MIv yX1_firstOf M_X1_firstOf 3 := ⟨⟨(mem_GW 1088 (by decide +kernel) rfl), (mem_GW 129 (by decide +kernel) rfl), by decide +kernel, by decide +kernel, by decide +kernel, by decide⟩, (mem_GW 1087 (by decide +kernel) rfl), (mem_GW 30 (by decide +kernel) rfl)⟩
set_option maxRecDepth 20000 in
set_option maxHeartbeats 4000000 in
theorem c_X1_firstOf_l2 {k0 : K0} {G : Gx} {Qp : Option AV → Fx → Hp → Prop} (hM : MB (KM k0 0 0 Qp) G M_X1_firstOf 3) (v1 : Int) (v2 : Int) (h : Hp) (x : Int)   {P : ((Int) ⊕ (Int)) → Prop} (hin : ∀ y : Int, P (.inl y) → ATk (KM k0 0 0 Qp) FN 0 0 M_X1_firstOf 2 [some (aR 53), some (aI v1), some (aI v2), none, some (aI y)] [] h) (hout0 : ∀ y : Int, P (.inr y) → ATk (KM k0 0 0 Qp) FN 0 0 M_X1_firstOf 17 [none, none, none, none, some (aI y)] [] h) (hh : OK (X1_firstOf_l2 v1 v2 h x) P) : ATk (KM k0 0 0 Qp) FN 0 0 M_X1_firstOf 2 [some (aR 53), some (aI v1), some (aI v2), none, some (aI x)] [] h := by
  unfold X1_firstOf_l2 at hh
  refine A_blk hM.1 4 (lv1 := [some (aR 53), some (aI v1), some (aI v2), none, some (aI x)]) (s1 := [aI v1, aR 3, aI x]) (h1 := h) rfl ?_
  refine A_callV hM rfl rfl (mem_GW 1019 (by decide +kernel) rfl) mi_X7_bitSize (As := [aI v1]) (rest := [aI x]) (ct_X7_bitSize v1 h (OK_bind hh)) (by decide) ⟨Nat.zero_le _, Nat.zero_le _⟩ rfl rfl (Nat.le_of_ble_eq_true rfl) (by decide) rfl (by decide) rfl (fun r F' h' hq1 => ?_)
  obtain ⟨rfl, r1, rfl, e9, hh⟩ := hq1
  subst h'
  refine A_icmp hM.1 rfl rfl (fun hc => ?_) (fun hc => ?_)
  · replace hh := OK_t hh hc
    refine A_mask [false, false, false, true, true] (lv1 := [none, none, none, none, some (aI x)]) rfl ?_
    exact hout0 x hh
  · replace hh := OK_f hh hc
    refine A_blk hM.1 4 (lv1 := [some (aR 53), some (aI v1), some (aI v2), none, some (aI x)]) (s1 := [aI x, aI v1, aR 3]) (h1 := h) rfl ?_
    refine A_callV hM rfl rfl (mem_GW 1024 (by decide +kernel) rfl) mi_X7_bitWord (As := [aI v1, aI x]) (rest := []) (ct_X7_bitWord v1 x h (OK_bind hh)) (by decide) ⟨Nat.zero_le _, Nat.zero_le _⟩ rfl rfl (Nat.le_of_ble_eq_true rfl) (by decide) rfl (by decide) rfl (fun r F' h' hq1 => ?_)
    obtain ⟨rfl, r2, rfl, e9, hh⟩ := hq1
    subst h'
    refine A_blk hM.1 1 (lv1 := [some (aR 53), some (aI v1), some (aI v2), none, some (aI x)]) (s1 := [aI v2, aI r2]) (h1 := h) rfl ?_
    refine A_icmp hM.1 rfl rfl (fun hc => ?_) (fun hc => ?_)
    · replace hh := OK_t hh hc
      refine A_mask [false, false, false, true, true] (lv1 := [none, none, none, none, some (aI x)]) rfl ?_
      exact hout0 x hh
    · replace hh := OK_f hh hc
      refine A_blk hM.1 1 (lv1 := [some (aR 53), some (aI v1), some (aI v2), none, some (aI (x + 1))]) (s1 := []) (h1 := h) rfl ?_
      refine A_go hM.1 rfl rfl ?_
      exact hin (x + 1) hh

set_option maxRecDepth 20000 in
set_option maxHeartbeats 4000000 in
theorem c_X1_firstOf {k0 : K0} {G : Gx} {Qp : Option AV → Fx → Hp → Prop} (hM : MB (KM k0 0 0 Qp) G M_X1_firstOf 3) (v1 : Int) (v2 : Int) (v3 : Int) (h : Hp)   {P : Int → Prop} (hq : ∀ z : Int, P z → Qp (some (aI z)) FN h) (hh : OK (X1_firstOf v1 v2 v3 h) P) : ATk (KM k0 0 0 Qp) FN 0 0 M_X1_firstOf 0 [some (aR 53), some (aI v1), some (aI v2), some (aI v3), none] [] h := by
  unfold X1_firstOf at hh
  refine A_blk hM.1 2 (lv1 := [some (aR 53), some (aI v1), some (aI v2), some (aI v3), some (aI v3)]) (s1 := []) (h1 := h) rfl ?_
  refine A_mask [true, true, true, false, true] (lv1 := [some (aR 53), some (aI v1), some (aI v2), none, some (aI v3)]) rfl ?_
  refine iter_ok (s := v3) (Gp := fun z => ATk (KM k0 0 0 Qp) FN 0 0 M_X1_firstOf 2 [some (aR 53), some (aI v1), some (aI v2), none, some (aI z)] [] h) (E := fun z => ATk (KM k0 0 0 Qp) FN 0 0 M_X1_firstOf 17 [none, none, none, none, some (aI z)] [] h) (fun z P1 g1 g2 g3 => c_X1_firstOf_l2 hM v1 v2 h z g2 g3 g1) (OK_bind hh) (fun x3 hh => ?_)
  refine A_blk hM.1 1 (lv1 := [none, none, none, none, some (aI x3)]) (s1 := [aI x3]) (h1 := h) rfl ?_
  exact A_reti hM.1 rfl rfl rfl (hq x3 hh)

set_option maxRecDepth 20000 in
set_option maxHeartbeats 4000000 in
theorem ct_X1_firstOf {G : Gx} (v1 : Int) (v2 : Int) (v3 : Int) (h : Hp)   {P : Int → Prop} (hh : OK (X1_firstOf v1 v2 v3 h) P) : CT G yX1_firstOf M_X1_firstOf 3 0 0 FN h [aR 53, aI v1, aI v2, aI v3] (fun r F' h' => F' = FN ∧ ∃ z, r = some (aI z) ∧ h' = h ∧ P z) :=
  CT.of (by decide +kernel) rfl (Nat.le_of_ble_eq_true rfl) k_X1_firstOf fun k0 _ _ hM => c_X1_firstOf hM v1 v2 v3 h (fun z hz => ⟨rfl, z, rfl, rfl, hz⟩) hh

