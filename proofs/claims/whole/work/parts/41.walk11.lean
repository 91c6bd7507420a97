set_option linter.all false
theorem mi_X5_compareAll : MIv yX5_compareAll M_X5_compareAll 0 := ⟨⟨(mem_GW 1372 (by decide +kernel) rfl), (mem_GW 132 (by decide +kernel) rfl), by decide +kernel, by decide +kernel, by decide +kernel, by decide⟩, (mem_GW 1371 (by decide +kernel) rfl), (mem_GW 44 (by decide +kernel) rfl)⟩
set_option maxRecDepth 20000 in
set_option maxHeartbeats 4000000 in
theorem c_X5_compareAll_l2 {k0 : K0} {G : Gx} {Qp : Option AV → Fx → Hp → Prop} (hM : MB (KM k0 0 0 Qp) G M_X5_compareAll 4) (x : Int × Hp)   {P : ((Int × Hp) ⊕ (Hp)) → Prop} (hin : ∀ y : Int × Hp, P (.inl y) → ATk (KM k0 0 0 Qp) FN 0 0 M_X5_compareAll 2 [some (aR 66), some (aI y.1), none] [] y.2) (hout0 : ∀ y : Hp, P (.inr y) → ATk (KM k0 0 0 Qp) FN 0 0 M_X5_compareAll 12 [some (aR 66), none, none] [] y) (hh : OK (X5_compareAll_l2 x) P) : ATk (KM k0 0 0 Qp) FN 0 0 M_X5_compareAll 2 [some (aR 66), some (aI x.1), none] [] x.2 := by
  unfold X5_compareAll_l2 at hh
  refine A_blk hM.1 2 (lv1 := [some (aR 66), some (aI x.1), none]) (s1 := [aI 10, aI x.1]) (h1 := x.2) rfl ?_
  refine A_icmp hM.1 rfl rfl (fun hc => ?_) (fun hc => ?_)
  · replace hh := OK_t hh hc
    refine A_mask [true, false, true] (lv1 := [some (aR 66), none, none]) rfl ?_
    exact hout0 x.2 hh
  · replace hh := OK_f hh hc
    refine A_blk hM.1 4 (lv1 := [some (aR 66), some (aI x.1), none]) (s1 := [aI 0, aI x.1, aR 76]) (h1 := x.2) rfl ?_
    obtain ⟨g1, hh⟩ := OK_g hh
    refine A_ast hM.1 rfl (Or.inl ⟨rfl, rfl, rfl⟩) rfl rfl rfl g1 ?_
    refine A_blk hM.1 1 (lv1 := [some (aR 66), some (aI (x.1 + 1)), none]) (s1 := []) (h1 := setH x.2 76 ((w32 x.1).toNat) 0) rfl ?_
    refine A_go hM.1 rfl rfl ?_
    exact hin (x.1 + 1, setH x.2 76 ((w32 x.1).toNat) 0) hh

set_option maxRecDepth 20000 in
set_option maxHeartbeats 4000000 in
theorem c_X5_compareAll_l14 {k0 : K0} {G : Gx} {Qp : Option AV → Fx → Hp → Prop} (hM : MB (KM k0 0 0 Qp) G M_X5_compareAll 4) (x : Int × Hp)   {P : ((Int × Hp) ⊕ (Hp)) → Prop} (hin : ∀ y : Int × Hp, P (.inl y) → ATk (KM k0 0 0 Qp) FN 0 0 M_X5_compareAll 14 [some (aR 66), some (aI y.1), none] [] y.2) (hout0 : ∀ y : Hp, P (.inr y) → ATk (KM k0 0 0 Qp) FN 0 0 M_X5_compareAll 24 [some (aR 66), none, none] [] y) (hh : OK (X5_compareAll_l14 x) P) : ATk (KM k0 0 0 Qp) FN 0 0 M_X5_compareAll 14 [some (aR 66), some (aI x.1), none] [] x.2 := by
  unfold X5_compareAll_l14 at hh
  refine A_blk hM.1 2 (lv1 := [some (aR 66), some (aI x.1), none]) (s1 := [aI 1024, aI x.1]) (h1 := x.2) rfl ?_
  refine A_icmp hM.1 rfl rfl (fun hc => ?_) (fun hc => ?_)
  · replace hh := OK_t hh hc
    refine A_mask [true, false, true] (lv1 := [some (aR 66), none, none]) rfl ?_
    exact hout0 x.2 hh
  · replace hh := OK_f hh hc
    refine A_blk hM.1 4 (lv1 := [some (aR 66), some (aI x.1), none]) (s1 := [aI 0, aI x.1, aR 75]) (h1 := x.2) rfl ?_
    obtain ⟨g3, hh⟩ := OK_g hh
    refine A_ast hM.1 rfl (Or.inl ⟨rfl, rfl, rfl⟩) rfl rfl rfl g3 ?_
    refine A_blk hM.1 1 (lv1 := [some (aR 66), some (aI (x.1 + 1)), none]) (s1 := []) (h1 := setH x.2 75 ((w32 x.1).toNat) 0) rfl ?_
    refine A_go hM.1 rfl rfl ?_
    exact hin (x.1 + 1, setH x.2 75 ((w32 x.1).toNat) 0) hh

set_option maxRecDepth 20000 in
set_option maxHeartbeats 4000000 in
theorem c_X5_compareAll_j81 {k0 : K0} {G : Gx} {Qp : Option AV → Fx → Hp → Prop} (hM : MB (KM k0 0 0 Qp) G M_X5_compareAll 4) (v1 : Int) (v2 : Int) (h : Hp)   {P : ((Int × Hp) ⊕ (Hp)) → Prop} (hin : ∀ y : Int × Hp, P (.inl y) → ATk (KM k0 0 0 Qp) FN 0 0 M_X5_compareAll 43 [some (aR 66), some (aI v1), some (aI y.1)] [] y.2) (hout0 : ∀ y : Hp, P (.inr y) → ATk (KM k0 0 0 Qp) FN 0 0 M_X5_compareAll 83 [some (aR 66), some (aI v1), none] [] y) (hh : OK (X5_compareAll_j81 v1 v2 h) P) : ATk (KM k0 0 0 Qp) FN 0 0 M_X5_compareAll 81 [some (aR 66), some (aI v1), some (aI v2)] [] h := by
  unfold X5_compareAll_j81 at hh
  refine A_blk hM.1 1 (lv1 := [some (aR 66), some (aI v1), some (aI (v2 + 1))]) (s1 := []) (h1 := h) rfl ?_
  refine A_go hM.1 rfl rfl ?_
  exact hin (v2 + 1, h) hh

set_option maxRecDepth 20000 in
set_option maxHeartbeats 4000000 in
theorem c_X5_compareAll_l43 {k0 : K0} {G : Gx} {Qp : Option AV → Fx → Hp → Prop} (hM : MB (KM k0 0 0 Qp) G M_X5_compareAll 4) (v1 : Int) (x : Int × Hp)   {P : ((Int × Hp) ⊕ (Hp)) → Prop} (hin : ∀ y : Int × Hp, P (.inl y) → ATk (KM k0 0 0 Qp) FN 0 0 M_X5_compareAll 43 [some (aR 66), some (aI v1), some (aI y.1)] [] y.2) (hout0 : ∀ y : Hp, P (.inr y) → ATk (KM k0 0 0 Qp) FN 0 0 M_X5_compareAll 83 [some (aR 66), some (aI v1), none] [] y) (hh : OK (X5_compareAll_l43 v1 x) P) : ATk (KM k0 0 0 Qp) FN 0 0 M_X5_compareAll 43 [some (aR 66), some (aI v1), some (aI x.1)] [] x.2 := by
  unfold X5_compareAll_l43 at hh
  refine A_blk hM.1 3 (lv1 := [some (aR 66), some (aI v1), some (aI x.1)]) (s1 := [aI (x.2 66 5), aI x.1]) (h1 := x.2) rfl ?_
  refine A_icmp hM.1 rfl rfl (fun hc => ?_) (fun hc => ?_)
  · replace hh := OK_t hh hc
    refine A_mask [true, true, false] (lv1 := [some (aR 66), some (aI v1), none]) rfl ?_
    exact hout0 x.2 hh
  · replace hh := OK_f hh hc
    refine A_blk hM.1 3 (lv1 := [some (aR 66), some (aI v1), some (aI x.1)]) (s1 := [aI v1, aR 75]) (h1 := x.2) rfl ?_
    obtain ⟨g6, hh⟩ := OK_g hh
    refine A_ald hM.1 rfl (Or.inl ⟨rfl, rfl⟩) rfl (by decide) rfl g6 ?_
    refine A_blk hM.1 5 (lv1 := [some (aR 66), some (aI v1), some (aI x.1)]) (s1 := [aI 1, aI (and32 (ushr32 (x.2 75 ((w32 v1).toNat)) x.1) 1)]) (h1 := x.2) rfl ?_
    refine A_icmp hM.1 rfl rfl (fun hc => ?_) (fun hc => ?_)
    · replace hh := OK_t hh hc
      exact c_X5_compareAll_j81 hM v1 x.1 x.2 hin hout0 hh
    · replace hh := OK_f hh hc
      refine A_blk hM.1 6 (lv1 := [some (aR 66), some (aI v1), some (aI x.1)]) (s1 := [aI x.1, aR 76, aI x.1, aR 76]) (h1 := x.2) rfl ?_
      refine A_callSN (host := "QuotedBooks") hM rfl rfl (mem_NW 1291 (by decide +kernel) rfl) mi_X11_at ms_X11_at (As := [aR 76, aI x.1]) (rest := [aI x.1, aR 76]) (ct_X11_at 76 10 x.1 x.2 rfl rfl (OK_bind hh)) (by decide) ⟨Nat.zero_le _, Nat.zero_le _⟩ rfl rfl (Nat.le_of_ble_eq_true rfl) (fun r F' h' hq1 => ?_)
      obtain ⟨rfl, r7, rfl, e9, hh⟩ := hq1
      subst h'
      refine A_blk hM.1 4 (lv1 := [some (aR 66), some (aI v1), some (aI x.1)]) (s1 := [aI (or32 r7 (xor32 v1 (-1))), aI x.1, aR 76]) (h1 := x.2) rfl ?_
      refine A_callSN (host := "QuotedBooks") hM rfl rfl (mem_NW 1292 (by decide +kernel) rfl) mi_X11_put ms_X11_put (As := [aR 76, aI x.1, aI (or32 r7 (xor32 v1 (-1)))]) (rest := []) (ct_X11_put 76 10 x.1 (or32 r7 (xor32 v1 (-1))) x.2 rfl rfl (OK_bind hh)) (by decide) ⟨Nat.zero_le _, Nat.zero_le _⟩ rfl rfl (Nat.le_of_ble_eq_true rfl) (fun r F' h' hq1 => ?_)
      obtain ⟨rfl, rfl, hh⟩ := hq1
      obtain ⟨r8, rfl⟩ : ∃ z, z = h' := ⟨_, rfl⟩
      refine A_blk hM.1 10 (lv1 := [some (aR 66), some (aI v1), some (aI x.1)]) (s1 := [aI ((v1 * 10) + x.1), aR 72, aI x.1, aI v1, aR 66]) (h1 := r8) rfl ?_
      refine A_callSN (host := "QuotedBooks") hM rfl rfl (mem_NW 1291 (by decide +kernel) rfl) mi_X11_at ms_X11_at (As := [aR 72, aI ((v1 * 10) + x.1)]) (rest := [aI x.1, aI v1, aR 66]) (ct_X11_at 72 10240 ((v1 * 10) + x.1) r8 rfl rfl (OK_bind hh)) (by decide) ⟨Nat.zero_le _, Nat.zero_le _⟩ rfl rfl (Nat.le_of_ble_eq_true rfl) (fun r F' h' hq1 => ?_)
      obtain ⟨rfl, r9, rfl, e9, hh⟩ := hq1
      subst h'
      refine A_callV hM rfl rfl (mem_GW 1373 (by decide +kernel) rfl) mi_X5_markNext (As := [aI v1, aI x.1, aI r9]) (rest := []) (ct_X5_markNext v1 x.1 r9 r8 (OK_bind hh)) (by decide) ⟨Nat.zero_le _, Nat.zero_le _⟩ rfl rfl (Nat.le_of_ble_eq_true rfl) (by decide) rfl (by decide) rfl (fun r F' h' hq1 => ?_)
      obtain ⟨rfl, rfl, hh⟩ := hq1
      obtain ⟨r10, rfl⟩ : ∃ z, z = h' := ⟨_, rfl⟩
      exact c_X5_compareAll_j81 hM v1 x.1 r10 hin hout0 hh

set_option maxRecDepth 20000 in
set_option maxHeartbeats 4000000 in
theorem c_X5_compareAll_l32 {k0 : K0} {G : Gx} {Qp : Option AV → Fx → Hp → Prop} (hM : MB (KM k0 0 0 Qp) G M_X5_compareAll 4) (x : Int × Hp)   {P : ((Int × Hp) ⊕ (Hp)) → Prop} (hin : ∀ y : Int × Hp, P (.inl y) → ATk (KM k0 0 0 Qp) FN 0 0 M_X5_compareAll 32 [some (aR 66), some (aI y.1), none] [] y.2) (hout0 : ∀ y : Hp, P (.inr y) → ATk (KM k0 0 0 Qp) FN 0 0 M_X5_compareAll 85 [none, none, none] [] y) (hh : OK (X5_compareAll_l32 x) P) : ATk (KM k0 0 0 Qp) FN 0 0 M_X5_compareAll 32 [some (aR 66), some (aI x.1), none] [] x.2 := by
  unfold X5_compareAll_l32 at hh
  refine A_blk hM.1 5 (lv1 := [some (aR 66), some (aI x.1), none]) (s1 := [aI (shl32 1 (x.2 66 5)), aI x.1]) (h1 := x.2) rfl ?_
  refine A_icmp hM.1 rfl rfl (fun hc => ?_) (fun hc => ?_)
  · replace hh := OK_t hh hc
    refine A_mask [false, false, true] (lv1 := [none, none, none]) rfl ?_
    exact hout0 x.2 hh
  · replace hh := OK_f hh hc
    refine A_blk hM.1 2 (lv1 := [some (aR 66), some (aI x.1), none]) (s1 := [aI 1024, aI x.1]) (h1 := x.2) rfl ?_
    refine A_icmp hM.1 rfl rfl (fun hc => ?_) (fun hc => ?_)
    · replace hh := OK_t hh hc
      refine A_mask [false, false, true] (lv1 := [none, none, none]) rfl ?_
      exact hout0 x.2 hh
    · replace hh := OK_f hh hc
      refine A_blk hM.1 2 (lv1 := [some (aR 66), some (aI x.1), some (aI 0)]) (s1 := []) (h1 := x.2) rfl ?_
      refine iter_ok (s := (0, x.2)) (Gp := fun z => ATk (KM k0 0 0 Qp) FN 0 0 M_X5_compareAll 43 [some (aR 66), some (aI x.1), some (aI z.1)] [] z.2) (E := fun z => ATk (KM k0 0 0 Qp) FN 0 0 M_X5_compareAll 83 [some (aR 66), some (aI x.1), none] [] z) (fun z P1 g1 g2 g3 => c_X5_compareAll_l43 hM x.1 z g2 g3 g1) (OK_bind hh) (fun x11 hh => ?_)
      refine A_blk hM.1 1 (lv1 := [some (aR 66), some (aI (x.1 + 1)), none]) (s1 := []) (h1 := x11) rfl ?_
      refine A_go hM.1 rfl rfl ?_
      exact hin (x.1 + 1, x11) hh

set_option maxRecDepth 20000 in
set_option maxHeartbeats 4000000 in
theorem c_X5_compareAll {k0 : K0} {G : Gx} {Qp : Option AV → Fx → Hp → Prop} (hM : MB (KM k0 0 0 Qp) G M_X5_compareAll 4) (h : Hp)   {P : Hp → Prop} (hq : ∀ z : Hp, P z → Qp none FN z) (hh : OK (X5_compareAll h) P) : ATk (KM k0 0 0 Qp) FN 0 0 M_X5_compareAll 0 [some (aR 66), none, none] [] h := by
  unfold X5_compareAll at hh
  refine A_blk hM.1 2 (lv1 := [some (aR 66), some (aI 0), none]) (s1 := []) (h1 := h) rfl ?_
  refine iter_ok (s := (0, h)) (Gp := fun z => ATk (KM k0 0 0 Qp) FN 0 0 M_X5_compareAll 2 [some (aR 66), some (aI z.1), none] [] z.2) (E := fun z => ATk (KM k0 0 0 Qp) FN 0 0 M_X5_compareAll 12 [some (aR 66), none, none] [] z) (fun z P1 g1 g2 g3 => c_X5_compareAll_l2 hM  z g2 g3 g1) (OK_bind hh) (fun x2 hh => ?_)
  refine A_blk hM.1 2 (lv1 := [some (aR 66), some (aI 0), none]) (s1 := []) (h1 := x2) rfl ?_
  refine iter_ok (s := (0, x2)) (Gp := fun z => ATk (KM k0 0 0 Qp) FN 0 0 M_X5_compareAll 14 [some (aR 66), some (aI z.1), none] [] z.2) (E := fun z => ATk (KM k0 0 0 Qp) FN 0 0 M_X5_compareAll 24 [some (aR 66), none, none] [] z) (fun z P1 g1 g2 g3 => c_X5_compareAll_l14 hM  z g2 g3 g1) (OK_bind hh) (fun x4 hh => ?_)
  refine A_blk hM.1 5 (lv1 := [some (aR 66), none, none]) (s1 := [aI (x4 66 14), aI (-1), aI 0, aR 66]) (h1 := x4) rfl ?_
  refine A_callV hM rfl rfl (mem_GW 1373 (by decide +kernel) rfl) mi_X5_markNext (As := [aI 0, aI (-1), aI (x4 66 14)]) (rest := []) (ct_X5_markNext 0 (-1) (x4 66 14) x4 (OK_bind hh)) (by decide) ⟨Nat.zero_le _, Nat.zero_le _⟩ rfl rfl (Nat.le_of_ble_eq_true rfl) (by decide) rfl (by decide) rfl (fun r F' h' hq1 => ?_)
  obtain ⟨rfl, rfl, hh⟩ := hq1
  obtain ⟨r5, rfl⟩ : ∃ z, z = h' := ⟨_, rfl⟩
  refine A_blk hM.1 2 (lv1 := [some (aR 66), some (aI 1), none]) (s1 := []) (h1 := r5) rfl ?_
  refine iter_ok (s := (1, r5)) (Gp := fun z => ATk (KM k0 0 0 Qp) FN 0 0 M_X5_compareAll 32 [some (aR 66), some (aI z.1), none] [] z.2) (E := fun z => ATk (KM k0 0 0 Qp) FN 0 0 M_X5_compareAll 85 [none, none, none] [] z) (fun z P1 g1 g2 g3 => c_X5_compareAll_l32 hM  z g2 g3 g1) (OK_bind hh) (fun x12 hh => ?_)
  exact A_retv hM.1 rfl rfl rfl (hq x12 hh)

set_option maxRecDepth 20000 in
set_option maxHeartbeats 4000000 in
theorem ct_X5_compareAll {G : Gx} (h : Hp)   {P : Hp → Prop} (hh : OK (X5_compareAll h) P) : CT G yX5_compareAll M_X5_compareAll 4 0 0 FN h [aR 66] (fun r F' h' => F' = FN ∧ r = none ∧ P h') :=
  CT.of (by decide +kernel) rfl (Nat.le_of_ble_eq_true rfl) k_X5_compareAll fun k0 _ _ hM => c_X5_compareAll hM h (fun z hz => ⟨rfl, rfl, hz⟩) hh

