set_option linter.all false
theorem mi_X8_alikeWith : MIv yX8_alikeWith M_X8_alikeWith 1 := ⟨⟨(mem_GW 1176 (by decide +kernel) rfl), (mem_GW 131 (by decide +kernel) rfl), by decide +kernel, by decide +kernel, by decide +kernel, by decide⟩, (mem_GW 1174 (by decide +kernel) rfl), (mem_GW 1175 (by decide +kernel) rfl)⟩
set_option maxRecDepth 20000 in
set_option maxHeartbeats 4000000 in
theorem c_X8_alikeWith_j24 {k0 : K0} {G : Gx} {Qp : Option AV → Fx → Hp → Prop} (hM : MB (KM k0 0 0 Qp) G M_X8_alikeWith 4) (v2 : Int) (v4 : Int) (h : Hp)   {P : ((Int × Int) ⊕ (Int)) → Prop} (hin : ∀ y : Int × Int, P (.inl y) → ATk (KM k0 0 0 Qp) FN 0 0 M_X8_alikeWith 4 [some (aR 62), some (aR 64), some (aL y.1), none, some (aI y.2)] [] h) (hout0 : ∀ y : Int, P (.inr y) → ATk (KM k0 0 0 Qp) FN 0 0 M_X8_alikeWith 26 [none, none, some (aL y), none, none] [] h) (hh : OK (X8_alikeWith_j24 v2 v4 h) P) : ATk (KM k0 0 0 Qp) FN 0 0 M_X8_alikeWith 24 [some (aR 62), some (aR 64), some (aL v2), none, some (aI v4)] [] h := by
  unfold X8_alikeWith_j24 at hh
  refine A_blk hM.1 1 (lv1 := [some (aR 62), some (aR 64), some (aL v2), none, some (aI (v4 + 1))]) (s1 := []) (h1 := h) rfl ?_
  refine A_go hM.1 rfl rfl ?_
  exact hin (v2, v4 + 1) hh

set_option maxRecDepth 20000 in
set_option maxHeartbeats 4000000 in
theorem c_X8_alikeWith_l4 {k0 : K0} {G : Gx} {Qp : Option AV → Fx → Hp → Prop} (hM : MB (KM k0 0 0 Qp) G M_X8_alikeWith 4) (h : Hp) (x : Int × Int)   {P : ((Int × Int) ⊕ (Int)) → Prop} (hin : ∀ y : Int × Int, P (.inl y) → ATk (KM k0 0 0 Qp) FN 0 0 M_X8_alikeWith 4 [some (aR 62), some (aR 64), some (aL y.1), none, some (aI y.2)] [] h) (hout0 : ∀ y : Int, P (.inr y) → ATk (KM k0 0 0 Qp) FN 0 0 M_X8_alikeWith 26 [none, none, some (aL y), none, none] [] h) (hh : OK (X8_alikeWith_l4 h x) P) : ATk (KM k0 0 0 Qp) FN 0 0 M_X8_alikeWith 4 [some (aR 62), some (aR 64), some (aL x.1), none, some (aI x.2)] [] h := by
  unfold X8_alikeWith_l4 at hh
  refine A_blk hM.1 2 (lv1 := [some (aR 62), some (aR 64), some (aL x.1), none, some (aI x.2)]) (s1 := [aI 40, aI x.2]) (h1 := h) rfl ?_
  refine A_icmp hM.1 rfl rfl (fun hc => ?_) (fun hc => ?_)
  · replace hh := OK_t hh hc
    refine A_mask [false, false, true, true, false] (lv1 := [none, none, some (aL x.1), none, none]) rfl ?_
    exact hout0 x.1 hh
  · replace hh := OK_f hh hc
    refine A_blk hM.1 2 (lv1 := [some (aR 62), some (aR 64), some (aL x.1), none, some (aI x.2)]) (s1 := [aI x.2, aR 62]) (h1 := h) rfl ?_
    refine A_callV hM rfl rfl (mem_GW 1157 (by decide +kernel) rfl) mi_X8_isAt (As := [aI x.2]) (rest := []) (ct_X8_isAt 62 x.2 h (by decide) (OK_bind hh)) (by decide) ⟨Nat.zero_le _, Nat.zero_le _⟩ rfl rfl (Nat.le_of_ble_eq_true rfl) (by decide) rfl (by decide) rfl (fun r F' h' hq1 => ?_)
    obtain ⟨rfl, r1, rfl, e9, hh⟩ := hq1
    subst h'
    refine A_ifc hM.1 rfl rfl (fun hc => ?_) (fun hc => ?_)
    · replace hh := OK_t hh hc
      exact c_X8_alikeWith_j24 hM x.1 x.2 h hin hout0 hh
    · replace hh := OK_f hh hc
      refine A_blk hM.1 2 (lv1 := [some (aR 62), some (aR 64), some (aL x.1), none, some (aI x.2)]) (s1 := [aI x.2, aR 62]) (h1 := h) rfl ?_
      refine A_callV hM rfl rfl (mem_GW 1177 (by decide +kernel) rfl) mi_X8_wordPut (As := [aI x.2]) (rest := []) (ct_X8_wordPut 62 x.2 h (by decide) (OK_bind hh)) (by decide) ⟨Nat.zero_le _, Nat.zero_le _⟩ rfl rfl (Nat.le_of_ble_eq_true rfl) (by decide) rfl (by decide) rfl (fun r F' h' hq1 => ?_)
      obtain ⟨rfl, r2, rfl, e9, hh⟩ := hq1
      subst h'
      refine A_blk hM.1 2 (lv1 := [some (aR 62), some (aR 64), some (aL x.1), none, some (aI x.2)]) (s1 := [aI x.2, aR 64, aI r2]) (h1 := h) rfl ?_
      refine A_callV hM rfl rfl (mem_GW 1177 (by decide +kernel) rfl) mi_X8_wordPut (As := [aI x.2]) (rest := [aI r2]) (ct_X8_wordPut 64 x.2 h (by decide) (OK_bind hh)) (by decide) ⟨Nat.zero_le _, Nat.zero_le _⟩ rfl rfl (Nat.le_of_ble_eq_true rfl) (by decide) rfl (by decide) rfl (fun r F' h' hq1 => ?_)
      obtain ⟨rfl, r3, rfl, e9, hh⟩ := hq1
      subst h'
      refine A_icmp hM.1 rfl rfl (fun hc => ?_) (fun hc => ?_)
      · replace hh := OK_t hh hc
        exact c_X8_alikeWith_j24 hM x.1 x.2 h hin hout0 hh
      · replace hh := OK_f hh hc
        refine A_blk hM.1 6 (lv1 := [some (aR 62), some (aR 64), some (aL (or64 x.1 (shl64 1 x.2))), none, some (aI x.2)]) (s1 := []) (h1 := h) rfl ?_
        exact c_X8_alikeWith_j24 hM (or64 x.1 (shl64 1 x.2)) x.2 h hin hout0 hh

set_option maxRecDepth 20000 in
set_option maxHeartbeats 4000000 in
theorem c_X8_alikeWith {k0 : K0} {G : Gx} {Qp : Option AV → Fx → Hp → Prop} (hM : MB (KM k0 0 0 Qp) G M_X8_alikeWith 4) (h : Hp)   {P : Int → Prop} (hq : ∀ z : Int, P z → Qp (some (aL z)) FN h) (hh : OK (X8_alikeWith h) P) : ATk (KM k0 0 0 Qp) FN 0 0 M_X8_alikeWith 0 [some (aR 62), some (aR 64), none, none, none] [] h := by
  unfold X8_alikeWith at hh
  refine A_blk hM.1 4 (lv1 := [some (aR 62), some (aR 64), some (aL 0), none, some (aI 0)]) (s1 := []) (h1 := h) rfl ?_
  refine iter_ok (s := (0, 0)) (Gp := fun z => ATk (KM k0 0 0 Qp) FN 0 0 M_X8_alikeWith 4 [some (aR 62), some (aR 64), some (aL z.1), none, some (aI z.2)] [] h) (E := fun z => ATk (KM k0 0 0 Qp) FN 0 0 M_X8_alikeWith 26 [none, none, some (aL z), none, none] [] h) (fun z P1 g1 g2 g3 => c_X8_alikeWith_l4 hM h z g2 g3 g1) (OK_bind hh) (fun x4 hh => ?_)
  refine A_blk hM.1 1 (lv1 := [none, none, some (aL x4), none, none]) (s1 := [aL x4]) (h1 := h) rfl ?_
  exact A_retl hM.1 rfl rfl rfl (hq x4 hh)

set_option maxRecDepth 20000 in
set_option maxHeartbeats 4000000 in
theorem ct_X8_alikeWith {G : Gx} (h : Hp)   {P : Int → Prop} (hh : OK (X8_alikeWith h) P) : CT G yX8_alikeWith M_X8_alikeWith 4 0 0 FN h [aR 62, aR 64] (fun r F' h' => F' = FN ∧ ∃ z, r = some (aL z) ∧ h' = h ∧ P z) :=
  CT.of (by decide +kernel) rfl (Nat.le_of_ble_eq_true rfl) k_X8_alikeWith fun k0 _ _ hM => c_X8_alikeWith hM h (fun z hz => ⟨rfl, z, rfl, rfl, hz⟩) hh

theorem mi_X4_choose : MIs yX4_choose M_X4_choose 2 := ⟨(mem_GW 1184 (by decide +kernel) rfl), (mem_GW 128 (by decide +kernel) rfl), by decide +kernel, by decide +kernel, by decide +kernel, by decide⟩
theorem ms_X4_choose : .static yX4_choose ∈ GW := (mem_GW 1183 (by decide +kernel) rfl)
set_option maxRecDepth 20000 in
set_option maxHeartbeats 4000000 in
theorem c_X4_choose_l11 {k0 : K0} {G : Gx} {Qp : Option AV → Fx → Hp → Prop} (hM : MB (KM k0 0 0 Qp) G M_X4_choose 1) (v0 : Int) (v1 : Int) (x : Int × Int) (h : Hp)  {P : ((Int × Int) ⊕ (Int)) → Prop} (hin : ∀ y : Int × Int, P (.inl y) → ATk (KM k0 0 0 Qp) FN 0 0 M_X4_choose 11 [some (aI v0), some (aI v1), some (aL y.1), none, some (aI y.2)] [] h) (hout0 : ∀ y : Int, P (.inr y) → ATk (KM k0 0 0 Qp) FN 0 0 M_X4_choose 28 [none, none, some (aL y), none, none] [] h) (hh : OK (X4_choose_l11 v0 v1 x) P) : ATk (KM k0 0 0 Qp) FN 0 0 M_X4_choose 11 [some (aI v0), some (aI v1), some (aL x.1), none, some (aI x.2)] [] h := by
  unfold X4_choose_l11 at hh
  refine A_blk hM.1 2 (lv1 := [some (aI v0), some (aI v1), some (aL x.1), none, some (aI x.2)]) (s1 := [aI v1, aI x.2]) (h1 := h) rfl ?_
  refine A_icmp hM.1 rfl rfl (fun hc => ?_) (fun hc => ?_)
  · replace hh := OK_t hh hc
    refine A_mask [false, false, true, true, false] (lv1 := [none, none, some (aL x.1), none, none]) rfl ?_
    exact hout0 x.1 hh
  · replace hh := OK_f hh hc
    refine A_blk hM.1 10 (lv1 := [some (aI v0), some (aI v1), some (aL x.1), none, some (aI x.2)]) (s1 := [aL (w32 x.2), aL (x.1 * (w32 ((v0 - v1) + x.2)))]) (h1 := h) rfl ?_
    obtain ⟨g1, hh⟩ := OK_g hh
    refine A_ldiv hM.1 rfl rfl g1 ?_
    refine A_blk hM.1 2 (lv1 := [some (aI v0), some (aI v1), some (aL (div64 (x.1 * (w32 ((v0 - v1) + x.2))) (w32 x.2))), none, some (aI (x.2 + 1))]) (s1 := []) (h1 := h) rfl ?_
    refine A_go hM.1 rfl rfl ?_
    exact hin (div64 (x.1 * (w32 ((v0 - v1) + x.2))) (w32 x.2), x.2 + 1) hh

set_option maxRecDepth 20000 in
set_option maxHeartbeats 4000000 in
theorem c_X4_choose {k0 : K0} {G : Gx} {Qp : Option AV → Fx → Hp → Prop} (hM : MB (KM k0 0 0 Qp) G M_X4_choose 1) (v0 : Int) (v1 : Int) (h : Hp)  {P : Int → Prop} (hq : ∀ z : Int, P z → Qp (some (aL z)) FN h) (hh : OK (X4_choose v0 v1) P) : ATk (KM k0 0 0 Qp) FN 0 0 M_X4_choose 0 [some (aI v0), some (aI v1), none, none, none] [] h := by
  unfold X4_choose at hh
  refine A_blk hM.1 1 (lv1 := [some (aI v0), some (aI v1), none, none, none]) (s1 := [aI v1]) (h1 := h) rfl ?_
  refine A_ifc hM.1 rfl rfl (fun hc => ?_) (fun hc => ?_)
  · replace hh := OK_t hh hc
    refine A_blk hM.1 1 (lv1 := [some (aI v0), some (aI v1), none, none, none]) (s1 := [aL 0]) (h1 := h) rfl ?_
    exact A_retl hM.1 rfl rfl rfl (hq 0 hh)
  · replace hh := OK_f hh hc
    refine A_blk hM.1 2 (lv1 := [some (aI v0), some (aI v1), none, none, none]) (s1 := [aI v0, aI v1]) (h1 := h) rfl ?_
    refine A_icmp hM.1 rfl rfl (fun hc => ?_) (fun hc => ?_)
    · replace hh := OK_t hh hc
      refine A_blk hM.1 4 (lv1 := [some (aI v0), some (aI v1), some (aL 1), none, some (aI 1)]) (s1 := []) (h1 := h) rfl ?_
      refine iter_ok (s := (1, 1)) (Gp := fun z => ATk (KM k0 0 0 Qp) FN 0 0 M_X4_choose 11 [some (aI v0), some (aI v1), some (aL z.1), none, some (aI z.2)] [] h) (E := fun z => ATk (KM k0 0 0 Qp) FN 0 0 M_X4_choose 28 [none, none, some (aL z), none, none] [] h) (fun z P1 g1 g2 g3 => c_X4_choose_l11 hM v0 v1 z h g2 g3 g1) (OK_bind hh) (fun x2 hh => ?_)
      refine A_blk hM.1 1 (lv1 := [none, none, some (aL x2), none, none]) (s1 := [aL x2]) (h1 := h) rfl ?_
      exact A_retl hM.1 rfl rfl rfl (hq x2 hh)
    · replace hh := OK_f hh hc
      refine A_blk hM.1 1 (lv1 := [some (aI v0), some (aI v1), none, none, none]) (s1 := [aL 0]) (h1 := h) rfl ?_
      exact A_retl hM.1 rfl rfl rfl (hq 0 hh)

set_option maxRecDepth 20000 in
set_option maxHeartbeats 4000000 in
theorem ct_X4_choose {G : Gx} (v0 : Int) (v1 : Int) (h : Hp)  {P : Int → Prop} (hh : OK (X4_choose v0 v1) P) : CT G yX4_choose M_X4_choose 1 0 0 FN h [aI v0, aI v1] (fun r F' h' => F' = FN ∧ ∃ z, r = some (aL z) ∧ h' = h ∧ P z) :=
  CT.of (by decide +kernel) rfl (Nat.le_of_ble_eq_true rfl) k_X4_choose fun k0 _ _ hM => c_X4_choose hM v0 v1 h (fun z hz => ⟨rfl, z, rfl, rfl, hz⟩) hh

theorem mi_X4_reduce : MIv yX4_reduce M_X4_reduce 2 := ⟨⟨(mem_GW 1188 (by decide +kernel) rfl), (mem_GW 128 (by decide +kernel) rfl), by decide +kernel, by decide +kernel, by decide +kernel, by decide⟩, (mem_GW 1187 (by decide +kernel) rfl), (mem_GW 35 (by decide +kernel) rfl)⟩
set_option maxRecDepth 20000 in
set_option maxHeartbeats 4000000 in
theorem c_X4_reduce_l6 {k0 : K0} {G : Gx} {Qp : Option AV → Fx → Hp → Prop} (hM : MB (KM k0 0 0 Qp) G M_X4_reduce 1) (v1 : Int) (v3 : Int) (x : Int × Int × Int × Hp)   {P : ((Int × Int × Int × Hp) ⊕ (Int × Hp)) → Prop} (hin : ∀ y : Int × Int × Int × Hp, P (.inl y) → ATk (KM k0 0 0 Qp) FN 0 0 M_X4_reduce 6 [some (aR 52), some (aL v1), none, some (aL v3), none, some (aL y.1), none, some (aL y.2.1), none, some (aI y.2.2.1), none, none] [] y.2.2.2) (hout0 : ∀ y : Int × Hp, P (.inr y) → ATk (KM k0 0 0 Qp) FN 0 0 M_X4_reduce 23 [some (aR 52), some (aL v1), none, some (aL v3), none, some (aL y.1), none, none, none, none, none, none] [] y.2) (hh : OK (X4_reduce_l6 v1 v3 x) P) : ATk (KM k0 0 0 Qp) FN 0 0 M_X4_reduce 6 [some (aR 52), some (aL v1), none, some (aL v3), none, some (aL x.1), none, some (aL x.2.1), none, some (aI x.2.2.1), none, none] [] x.2.2.2 := by
  unfold X4_reduce_l6 at hh
  refine A_blk hM.1 2 (lv1 := [some (aR 52), some (aL v1), none, some (aL v3), none, some (aL x.1), none, some (aL x.2.1), none, some (aI x.2.2.1), none, none]) (s1 := [aI 100, aI x.2.2.1]) (h1 := x.2.2.2) rfl ?_
  refine A_icmp hM.1 rfl rfl (fun hc => ?_) (fun hc => ?_)
  · replace hh := OK_t hh hc
    refine A_mask [true, true, true, true, true, true, true, false, true, false, true, true] (lv1 := [some (aR 52), some (aL v1), none, some (aL v3), none, some (aL x.1), none, none, none, none, none, none]) rfl ?_
    exact hout0 (x.1, x.2.2.2) hh
  · replace hh := OK_f hh hc
    refine A_blk hM.1 3 (lv1 := [some (aR 52), some (aL v1), none, some (aL v3), none, some (aL x.1), none, some (aL x.2.1), none, some (aI x.2.2.1), none, none]) (s1 := [aI (cmp64 x.2.1 0)]) (h1 := x.2.2.2) rfl ?_
    refine A_ifc hM.1 rfl rfl (fun hc => ?_) (fun hc => ?_)
    · replace hh := OK_t hh hc
      refine A_mask [true, true, true, true, true, true, true, false, true, false, true, true] (lv1 := [some (aR 52), some (aL v1), none, some (aL v3), none, some (aL x.1), none, none, none, none, none, none]) rfl ?_
      exact hout0 (x.1, x.2.2.2) hh
    · replace hh := OK_f hh hc
      refine A_blk hM.1 2 (lv1 := [some (aR 52), some (aL v1), none, some (aL v3), none, some (aL x.1), none, some (aL x.2.1), none, some (aI x.2.2.1), none, none]) (s1 := [aL x.2.1, aL x.1]) (h1 := x.2.2.2) rfl ?_
      obtain ⟨g1, hh⟩ := OK_g hh
      refine A_lrem hM.1 rfl rfl g1 ?_
      refine A_blk hM.1 6 (lv1 := [some (aR 52), some (aL v1), none, some (aL v3), none, some (aL x.2.1), none, some (aL (rem64 x.1 x.2.1)), none, some (aI (x.2.2.1 + 1)), some (aL (rem64 x.1 x.2.1)), none]) (s1 := []) (h1 := x.2.2.2) rfl ?_
      refine A_go hM.1 rfl rfl ?_
      refine A_mask [true, true, true, true, true, true, true, true, true, true, false, true] (lv1 := [some (aR 52), some (aL v1), none, some (aL v3), none, some (aL x.2.1), none, some (aL (rem64 x.1 x.2.1)), none, some (aI (x.2.2.1 + 1)), none, none]) rfl ?_
      exact hin (x.2.1, rem64 x.1 x.2.1, x.2.2.1 + 1, x.2.2.2) hh

set_option maxRecDepth 20000 in
set_option maxHeartbeats 4000000 in
theorem c_X4_reduce_j29 {k0 : K0} {G : Gx} {Qp : Option AV → Fx → Hp → Prop} (hM : MB (KM k0 0 0 Qp) G M_X4_reduce 1) (v1 : Int) (v3 : Int) (v5 : Int) (h : Hp)   {P : Hp → Prop} (hq : ∀ z : Hp, P z → Qp none FN z) (hh : OK (X4_reduce_j29 v1 v3 v5 h) P) : ATk (KM k0 0 0 Qp) FN 0 0 M_X4_reduce 29 [some (aR 52), some (aL v1), none, some (aL v3), none, some (aL v5), none, none, none, none, none, none] [] h := by
  unfold X4_reduce_j29 at hh
  refine A_blk hM.1 3 (lv1 := [some (aR 52), some (aL v1), none, some (aL v3), none, some (aL v5), none, none, none, none, none, none]) (s1 := [aL v5, aL v1, aR 52]) (h1 := h) rfl ?_
  obtain ⟨g3, hh⟩ := OK_g hh
  refine A_ldiv hM.1 rfl rfl g3 ?_
  refine A_blk hM.1 4 (lv1 := [some (aR 52), some (aL v1), none, some (aL v3), none, some (aL v5), none, none, none, none, none, none]) (s1 := [aL v5, aL v3, aR 52]) (h1 := setH h 52 0 (div64 v1 v5)) rfl ?_
  obtain ⟨g4, hh⟩ := OK_g hh
  refine A_ldiv hM.1 rfl rfl g4 ?_
  refine A_blk hM.1 1 (lv1 := [some (aR 52), some (aL v1), none, some (aL v3), none, some (aL v5), none, none, none, none, none, none]) (s1 := []) (h1 := setH (setH h 52 0 (div64 v1 v5)) 52 1 (div64 v3 v5)) rfl ?_
  exact A_retv hM.1 rfl rfl rfl (hq (setH (setH h 52 0 (div64 v1 v5)) 52 1 (div64 v3 v5)) hh)

set_option maxRecDepth 20000 in
set_option maxHeartbeats 4000000 in
theorem c_X4_reduce {k0 : K0} {G : Gx} {Qp : Option AV → Fx → Hp → Prop} (hM : MB (KM k0 0 0 Qp) G M_X4_reduce 1) (v1 : Int) (v3 : Int) (h : Hp)   {P : Hp → Prop} (hq : ∀ z : Hp, P z → Qp none FN z) (hh : OK (X4_reduce v1 v3 h) P) : ATk (KM k0 0 0 Qp) FN 0 0 M_X4_reduce 0 [some (aR 52), some (aL v1), none, some (aL v3), none, none, none, none, none, none, none, none] [] h := by
  unfold X4_reduce at hh
  refine A_blk hM.1 6 (lv1 := [some (aR 52), some (aL v1), none, some (aL v3), none, some (aL v1), none, some (aL v3), none, some (aI 0), none, none]) (s1 := []) (h1 := h) rfl ?_
  refine iter_ok (s := (v1, v3, 0, h)) (Gp := fun z => ATk (KM k0 0 0 Qp) FN 0 0 M_X4_reduce 6 [some (aR 52), some (aL v1), none, some (aL v3), none, some (aL z.1), none, some (aL z.2.1), none, some (aI z.2.2.1), none, none] [] z.2.2.2) (E := fun z => ATk (KM k0 0 0 Qp) FN 0 0 M_X4_reduce 23 [some (aR 52), some (aL v1), none, some (aL v3), none, some (aL z.1), none, none, none, none, none, none] [] z.2) (fun z P1 g1 g2 g3 => c_X4_reduce_l6 hM v1 v3 z g2 g3 g1) (OK_bind hh) (fun x2 hh => ?_)
  refine A_blk hM.1 3 (lv1 := [some (aR 52), some (aL v1), none, some (aL v3), none, some (aL x2.1), none, none, none, none, none, none]) (s1 := [aI (cmp64 x2.1 0)]) (h1 := x2.2) rfl ?_
  refine A_ifc hM.1 rfl rfl (fun hc => ?_) (fun hc => ?_)
  · replace hh := OK_t hh hc
    exact c_X4_reduce_j29 hM v1 v3 x2.1 x2.2 hq hh
  · replace hh := OK_f hh hc
    refine A_blk hM.1 2 (lv1 := [some (aR 52), some (aL v1), none, some (aL v3), none, some (aL 1), none, none, none, none, none, none]) (s1 := []) (h1 := x2.2) rfl ?_
    exact c_X4_reduce_j29 hM v1 v3 1 x2.2 hq hh

set_option maxRecDepth 20000 in
set_option maxHeartbeats 4000000 in
theorem ct_X4_reduce {G : Gx} (v1 : Int) (v3 : Int) (h : Hp)   {P : Hp → Prop} (hh : OK (X4_reduce v1 v3 h) P) : CT G yX4_reduce M_X4_reduce 1 0 0 FN h [aR 52, aL v1, aL v3] (fun r F' h' => F' = FN ∧ r = none ∧ P h') :=
  CT.of (by decide +kernel) rfl (Nat.le_of_ble_eq_true rfl) k_X4_reduce fun k0 _ _ hM => c_X4_reduce hM v1 v3 h (fun z hz => ⟨rfl, rfl, hz⟩) hh

theorem mi_X4_ofCommon : MIv yX4_ofCommon M_X4_ofCommon 4 := ⟨⟨(mem_GW 1181 (by decide +kernel) rfl), (mem_GW 128 (by decide +kernel) rfl), by decide +kernel, by decide +kernel, by decide +kernel, by decide⟩, (mem_GW 1179 (by decide +kernel) rfl), (mem_GW 1180 (by decide +kernel) rfl)⟩
set_option maxRecDepth 20000 in
set_option maxHeartbeats 4000000 in
theorem c_X4_ofCommon_l4 {k0 : K0} {G : Gx} {Qp : Option AV → Fx → Hp → Prop} (hM : MB (KM k0 0 0 Qp) G M_X4_ofCommon 2) (v1 : Int) (v2 : Int) (v3 : Int) (x : Int × Int × Hp)   {P : ((Int × Int × Hp) ⊕ (Int × Hp)) → Prop} (hin : ∀ y : Int × Int × Hp, P (.inl y) → ATk (KM k0 0 0 Qp) FN 0 0 M_X4_ofCommon 4 [some (aR 52), some (aI v1), some (aI v2), some (aI v3), none, some (aL y.1), none, some (aI y.2.1)] [] y.2.2) (hout0 : ∀ y : Int × Hp, P (.inr y) → ATk (KM k0 0 0 Qp) FN 0 0 M_X4_ofCommon 23 [some (aR 52), some (aI v1), none, some (aI v3), none, some (aL y.1), none, none] [] y.2) (hh : OK (X4_ofCommon_l4 v1 v2 v3 x) P) : ATk (KM k0 0 0 Qp) FN 0 0 M_X4_ofCommon 4 [some (aR 52), some (aI v1), some (aI v2), some (aI v3), none, some (aL x.1), none, some (aI x.2.1)] [] x.2.2 := by
  unfold X4_ofCommon_l4 at hh
  refine A_blk hM.1 2 (lv1 := [some (aR 52), some (aI v1), some (aI v2), some (aI v3), none, some (aL x.1), none, some (aI x.2.1)]) (s1 := [aI v3, aI x.2.1]) (h1 := x.2.2) rfl ?_
  refine A_icmp hM.1 rfl rfl (fun hc => ?_) (fun hc => ?_)
  · replace hh := OK_t hh hc
    refine A_mask [true, true, false, true, true, true, true, false] (lv1 := [some (aR 52), some (aI v1), none, some (aI v3), none, some (aL x.1), none, none]) rfl ?_
    exact hout0 (x.1, x.2.2) hh
  · replace hh := OK_f hh hc
    refine A_blk hM.1 3 (lv1 := [some (aR 52), some (aI v1), some (aI v2), some (aI v3), none, some (aL x.1), none, some (aI x.2.1)]) (s1 := [aI x.2.1, aI v2, aL x.1]) (h1 := x.2.2) rfl ?_
    refine A_callS hM rfl rfl (mem_GW 1182 (by decide +kernel) rfl) mi_X4_choose ms_X4_choose (As := [aI v2, aI x.2.1]) (rest := [aL x.1]) (ct_X4_choose v2 x.2.1 x.2.2 (OK_bind hh)) (by decide) ⟨Nat.zero_le _, Nat.zero_le _⟩ rfl rfl (Nat.le_of_ble_eq_true rfl) (fun r F' h' hq1 => ?_)
    obtain ⟨rfl, r1, rfl, e9, hh⟩ := hq1
    subst h'
    refine A_blk hM.1 6 (lv1 := [some (aR 52), some (aI v1), some (aI v2), some (aI v3), none, some (aL x.1), none, some (aI x.2.1)]) (s1 := [aI (v3 - x.2.1), aI (v1 - v2), aL r1, aL x.1]) (h1 := x.2.2) rfl ?_
    refine A_callS hM rfl rfl (mem_GW 1182 (by decide +kernel) rfl) mi_X4_choose ms_X4_choose (As := [aI (v1 - v2), aI (v3 - x.2.1)]) (rest := [aL r1, aL x.1]) (ct_X4_choose (v1 - v2) (v3 - x.2.1) x.2.2 (OK_bind hh)) (by decide) ⟨Nat.zero_le _, Nat.zero_le _⟩ rfl rfl (Nat.le_of_ble_eq_true rfl) (fun r F' h' hq1 => ?_)
    obtain ⟨rfl, r2, rfl, e9, hh⟩ := hq1
    subst h'
    refine A_blk hM.1 4 (lv1 := [some (aR 52), some (aI v1), some (aI v2), some (aI v3), none, some (aL (x.1 + (r1 * r2))), none, some (aI (x.2.1 + 1))]) (s1 := []) (h1 := x.2.2) rfl ?_
    refine A_go hM.1 rfl rfl ?_
    exact hin (x.1 + (r1 * r2), x.2.1 + 1, x.2.2) hh

set_option maxRecDepth 20000 in
set_option maxHeartbeats 4000000 in
theorem c_X4_ofCommon {k0 : K0} {G : Gx} {Qp : Option AV → Fx → Hp → Prop} (hM : MB (KM k0 0 0 Qp) G M_X4_ofCommon 2) (v1 : Int) (v2 : Int) (v3 : Int) (v4 : Int) (h : Hp)   {P : Hp → Prop} (hq : ∀ z : Hp, P z → Qp none FN z) (hh : OK (X4_ofCommon v1 v2 v3 v4 h) P) : ATk (KM k0 0 0 Qp) FN 0 0 M_X4_ofCommon 0 [some (aR 52), some (aI v1), some (aI v2), some (aI v3), some (aI v4), none, none, none] [] h := by
  unfold X4_ofCommon at hh
  refine A_blk hM.1 4 (lv1 := [some (aR 52), some (aI v1), some (aI v2), some (aI v3), some (aI v4), some (aL 0), none, some (aI v4)]) (s1 := []) (h1 := h) rfl ?_
  refine A_mask [true, true, true, true, false, true, true, true] (lv1 := [some (aR 52), some (aI v1), some (aI v2), some (aI v3), none, some (aL 0), none, some (aI v4)]) rfl ?_
  refine iter_ok (s := (0, v4, h)) (Gp := fun z => ATk (KM k0 0 0 Qp) FN 0 0 M_X4_ofCommon 4 [some (aR 52), some (aI v1), some (aI v2), some (aI v3), none, some (aL z.1), none, some (aI z.2.1)] [] z.2.2) (E := fun z => ATk (KM k0 0 0 Qp) FN 0 0 M_X4_ofCommon 23 [some (aR 52), some (aI v1), none, some (aI v3), none, some (aL z.1), none, none] [] z.2) (fun z P1 g1 g2 g3 => c_X4_ofCommon_l4 hM v1 v2 v3 z g2 g3 g1) (OK_bind hh) (fun x3 hh => ?_)
  refine A_blk hM.1 4 (lv1 := [some (aR 52), some (aI v1), none, some (aI v3), none, some (aL x3.1), none, none]) (s1 := [aI v3, aI v1, aL x3.1, aR 52]) (h1 := x3.2) rfl ?_
  refine A_callS hM rfl rfl (mem_GW 1182 (by decide +kernel) rfl) mi_X4_choose ms_X4_choose (As := [aI v1, aI v3]) (rest := [aL x3.1, aR 52]) (ct_X4_choose v1 v3 x3.2 (OK_bind hh)) (by decide) ⟨Nat.zero_le _, Nat.zero_le _⟩ rfl rfl (Nat.le_of_ble_eq_true rfl) (fun r F' h' hq1 => ?_)
  obtain ⟨rfl, r4, rfl, e9, hh⟩ := hq1
  subst h'
  refine A_callV hM rfl rfl (mem_GW 1185 (by decide +kernel) rfl) mi_X4_reduce (As := [aL x3.1, aL r4]) (rest := []) (ct_X4_reduce x3.1 r4 x3.2 (OK_bind hh)) (by decide) ⟨Nat.zero_le _, Nat.zero_le _⟩ rfl rfl (Nat.le_of_ble_eq_true rfl) (by decide) rfl (by decide) rfl (fun r F' h' hq1 => ?_)
  obtain ⟨rfl, rfl, hh⟩ := hq1
  obtain ⟨r5, rfl⟩ : ∃ z, z = h' := ⟨_, rfl⟩
  exact A_retv hM.1 rfl rfl rfl (hq r5 hh)

set_option maxRecDepth 20000 in
set_option maxHeartbeats 4000000 in
theorem ct_X4_ofCommon {G : Gx} (v1 : Int) (v2 : Int) (v3 : Int) (v4 : Int) (h : Hp)   {P : Hp → Prop} (hh : OK (X4_ofCommon v1 v2 v3 v4 h) P) : CT G yX4_ofCommon M_X4_ofCommon 2 0 0 FN h [aR 52, aI v1, aI v2, aI v3, aI v4] (fun r F' h' => F' = FN ∧ r = none ∧ P h') :=
  CT.of (by decide +kernel) rfl (Nat.le_of_ble_eq_true rfl) k_X4_ofCommon fun k0 _ _ hM => c_X4_ofCommon hM v1 v2 v3 v4 h (fun z hz => ⟨rfl, rfl, hz⟩) hh

theorem mi_X2_compare : MIv yX2_compare M_X2_compare 3 := ⟨⟨(mem_GW 1169 (by decide +kernel) rfl), (mem_GW 130 (by decide +kernel) rfl), by decide +kernel, by decide +kernel, by decide +kernel, by decide⟩, (mem_GW 1167 (by decide +kernel) rfl), (mem_GW 1168 (by decide +kernel) rfl)⟩
set_option maxRecDepth 20000 in
set_option maxHeartbeats 4000000 in
theorem c_X2_compare {k0 : K0} {G : Gx} {Qp : Option AV → Fx → Hp → Prop} (hM : MB (KM k0 0 0 Qp) G M_X2_compare 6) (v1 : Int) (v2 : Int) (v3 : Int) (h : Hp)   {P : Hp → Prop} (hq : ∀ z : Hp, P z → Qp none FN z) (hh : OK (X2_compare v1 v2 v3 h) P) : ATk (KM k0 0 0 Qp) FN 0 0 M_X2_compare 0 [some (aR 61), some (aI v1), some (aI v2), some (aI v3), none, none] [] h := by
  unfold X2_compare at hh
  refine A_blk hM.1 4 (lv1 := [some (aR 61), some (aI v1), some (aI v2), some (aI v3), none, none]) (s1 := [aI v3, aI v1, aR 62]) (h1 := h) rfl ?_
  refine A_callV hM rfl rfl (mem_GW 1101 (by decide +kernel) rfl) mi_X8_gather (As := [aI v1, aI v3]) (rest := []) (ct_X8_gather 62 v1 v3 h (by decide) (OK_bind hh)) (by decide) ⟨Nat.zero_le _, Nat.zero_le _⟩ rfl rfl (Nat.le_of_ble_eq_true rfl) (by decide) rfl (by decide) rfl (fun r F' h' hq1 => ?_)
  obtain ⟨rfl, rfl, hh⟩ := hq1
  obtain ⟨r1, rfl⟩ : ∃ z, z = h' := ⟨_, rfl⟩
  refine A_blk hM.1 4 (lv1 := [some (aR 61), some (aI v1), some (aI v2), some (aI v3), none, none]) (s1 := [aI v3, aI v2, aR 64]) (h1 := r1) rfl ?_
  refine A_callV hM rfl rfl (mem_GW 1101 (by decide +kernel) rfl) mi_X8_gather (As := [aI v2, aI v3]) (rest := []) (ct_X8_gather 64 v2 v3 r1 (by decide) (OK_bind hh)) (by decide) ⟨Nat.zero_le _, Nat.zero_le _⟩ rfl rfl (Nat.le_of_ble_eq_true rfl) (by decide) rfl (by decide) rfl (fun r F' h' hq1 => ?_)
  obtain ⟨rfl, rfl, hh⟩ := hq1
  obtain ⟨r2, rfl⟩ : ∃ z, z = h' := ⟨_, rfl⟩
  refine A_blk hM.1 2 (lv1 := [some (aR 61), some (aI v1), some (aI v2), some (aI v3), none, none]) (s1 := [aR 62]) (h1 := r2) rfl ?_
  refine A_callV hM rfl rfl (mem_GW 1170 (by decide +kernel) rfl) mi_X8_places (As := []) (rest := []) (ct_X8_places 62 r2 (by decide) (OK_bind hh)) (by decide) ⟨Nat.zero_le _, Nat.zero_le _⟩ rfl rfl (Nat.le_of_ble_eq_true rfl) (by decide) rfl (by decide) rfl (fun r F' h' hq1 => ?_)
  obtain ⟨rfl, r3, rfl, e9, hh⟩ := hq1
  subst h'
  refine A_blk hM.1 2 (lv1 := [some (aR 61), some (aI v1), some (aI v2), some (aI v3), none, none]) (s1 := [aR 64, aL r3]) (h1 := r2) rfl ?_
  refine A_callV hM rfl rfl (mem_GW 1170 (by decide +kernel) rfl) mi_X8_places (As := []) (rest := [aL r3]) (ct_X8_places 64 r2 (by decide) (OK_bind hh)) (by decide) ⟨Nat.zero_le _, Nat.zero_le _⟩ rfl rfl (Nat.le_of_ble_eq_true rfl) (by decide) rfl (by decide) rfl (fun r F' h' hq1 => ?_)
  obtain ⟨rfl, r4, rfl, e9, hh⟩ := hq1
  subst h'
  refine A_blk hM.1 4 (lv1 := [some (aR 61), some (aI v1), some (aI v2), some (aI v3), some (aL (and64 r3 r4)), none]) (s1 := [aL (and64 r3 r4), aR 61]) (h1 := r2) rfl ?_
  refine A_callS hM rfl rfl (mem_GW 1171 (by decide +kernel) rfl) mi_J13_bitCount ms_J13_bitCount (As := [aL (and64 r3 r4)]) (rest := [aR 61]) (ct_J13_bitCount (and64 r3 r4) r2 (OK_bind hh)) (by decide) ⟨Nat.zero_le _, Nat.zero_le _⟩ rfl rfl (Nat.le_of_ble_eq_true rfl) (fun r F' h' hq1 => ?_)
  obtain ⟨rfl, r5, rfl, e9, hh⟩ := hq1
  subst h'
  refine A_blk hM.1 4 (lv1 := [some (aR 61), some (aI v1), some (aI v2), some (aI v3), some (aL (and64 r3 r4)), none]) (s1 := [aR 62, aR 61]) (h1 := setH r2 61 4 r5) rfl ?_
  refine A_callV hM rfl rfl (mem_GW 1172 (by decide +kernel) rfl) mi_X8_marks (As := []) (rest := [aR 61]) (ct_X8_marks 62 (setH r2 61 4 r5) (by decide) (OK_bind hh)) (by decide) ⟨Nat.zero_le _, Nat.zero_le _⟩ rfl rfl (Nat.le_of_ble_eq_true rfl) (by decide) rfl (by decide) rfl (fun r F' h' hq1 => ?_)
  obtain ⟨rfl, r6, rfl, e9, hh⟩ := hq1
  subst h'
  refine A_blk hM.1 2 (lv1 := [some (aR 61), some (aI v1), some (aI v2), some (aI v3), some (aL (and64 r3 r4)), none]) (s1 := [aL (and64 r6 (and64 r3 r4)), aR 61]) (h1 := setH r2 61 4 r5) rfl ?_
  refine A_callS hM rfl rfl (mem_GW 1171 (by decide +kernel) rfl) mi_J13_bitCount ms_J13_bitCount (As := [aL (and64 r6 (and64 r3 r4))]) (rest := [aR 61]) (ct_J13_bitCount (and64 r6 (and64 r3 r4)) (setH r2 61 4 r5) (OK_bind hh)) (by decide) ⟨Nat.zero_le _, Nat.zero_le _⟩ rfl rfl (Nat.le_of_ble_eq_true rfl) (fun r F' h' hq1 => ?_)
  obtain ⟨rfl, r7, rfl, e9, hh⟩ := hq1
  subst h'
  refine A_blk hM.1 4 (lv1 := [some (aR 61), some (aI v1), some (aI v2), some (aI v3), some (aL (and64 r3 r4)), none]) (s1 := [aR 64, aR 61]) (h1 := setH (setH r2 61 4 r5) 61 5 r7) rfl ?_
  refine A_callV hM rfl rfl (mem_GW 1172 (by decide +kernel) rfl) mi_X8_marks (As := []) (rest := [aR 61]) (ct_X8_marks 64 (setH (setH r2 61 4 r5) 61 5 r7) (by decide) (OK_bind hh)) (by decide) ⟨Nat.zero_le _, Nat.zero_le _⟩ rfl rfl (Nat.le_of_ble_eq_true rfl) (by decide) rfl (by decide) rfl (fun r F' h' hq1 => ?_)
  obtain ⟨rfl, r8, rfl, e9, hh⟩ := hq1
  subst h'
  refine A_blk hM.1 2 (lv1 := [some (aR 61), some (aI v1), some (aI v2), some (aI v3), some (aL (and64 r3 r4)), none]) (s1 := [aL (and64 r8 (and64 r3 r4)), aR 61]) (h1 := setH (setH r2 61 4 r5) 61 5 r7) rfl ?_
  refine A_callS hM rfl rfl (mem_GW 1171 (by decide +kernel) rfl) mi_J13_bitCount ms_J13_bitCount (As := [aL (and64 r8 (and64 r3 r4))]) (rest := [aR 61]) (ct_J13_bitCount (and64 r8 (and64 r3 r4)) (setH (setH r2 61 4 r5) 61 5 r7) (OK_bind hh)) (by decide) ⟨Nat.zero_le _, Nat.zero_le _⟩ rfl rfl (Nat.le_of_ble_eq_true rfl) (fun r F' h' hq1 => ?_)
  obtain ⟨rfl, r9, rfl, e9, hh⟩ := hq1
  subst h'
  refine A_blk hM.1 6 (lv1 := [some (aR 61), some (aI v1), some (aI v2), some (aI v3), some (aL (and64 r3 r4)), none]) (s1 := [aR 64, aR 62, aR 61]) (h1 := setH (setH (setH r2 61 4 r5) 61 5 r7) 61 6 r9) rfl ?_
  refine A_callV hM rfl rfl (mem_GW 1173 (by decide +kernel) rfl) mi_X8_alikeWith (As := [aR 64]) (rest := [aR 61]) (ct_X8_alikeWith (setH (setH (setH r2 61 4 r5) 61 5 r7) 61 6 r9) (OK_bind hh)) (by decide) ⟨Nat.zero_le _, Nat.zero_le _⟩ rfl rfl (Nat.le_of_ble_eq_true rfl) (by decide) rfl (by decide) rfl (fun r F' h' hq1 => ?_)
  obtain ⟨rfl, r10, rfl, e9, hh⟩ := hq1
  subst h'
  refine A_callS hM rfl rfl (mem_GW 1171 (by decide +kernel) rfl) mi_J13_bitCount ms_J13_bitCount (As := [aL r10]) (rest := [aR 61]) (ct_J13_bitCount r10 (setH (setH (setH r2 61 4 r5) 61 5 r7) 61 6 r9) (OK_bind hh)) (by decide) ⟨Nat.zero_le _, Nat.zero_le _⟩ rfl rfl (Nat.le_of_ble_eq_true rfl) (fun r F' h' hq1 => ?_)
  obtain ⟨rfl, r11, rfl, e9, hh⟩ := hq1
  subst h'
  refine A_blk hM.1 11 (lv1 := [some (aR 61), some (aI v1), some (aI v2), some (aI v3), some (aL (and64 r3 r4)), none]) (s1 := [aI r11, aI r9, aI r7, aI r5, aR 52]) (h1 := setH (setH (setH (setH r2 61 4 r5) 61 5 r7) 61 6 r9) 61 7 r11) rfl ?_
  refine A_callV hM rfl rfl (mem_GW 1178 (by decide +kernel) rfl) mi_X4_ofCommon (As := [aI r5, aI r7, aI r9, aI r11]) (rest := []) (ct_X4_ofCommon r5 r7 r9 r11 (setH (setH (setH (setH r2 61 4 r5) 61 5 r7) 61 6 r9) 61 7 r11) (OK_bind hh)) (by decide) ⟨Nat.zero_le _, Nat.zero_le _⟩ rfl rfl (Nat.le_of_ble_eq_true rfl) (by decide) rfl (by decide) rfl (fun r F' h' hq1 => ?_)
  obtain ⟨rfl, rfl, hh⟩ := hq1
  obtain ⟨r12, rfl⟩ : ∃ z, z = h' := ⟨_, rfl⟩
  exact A_retv hM.1 rfl rfl rfl (hq r12 hh)

set_option maxRecDepth 20000 in
set_option maxHeartbeats 4000000 in
theorem ct_X2_compare {G : Gx} (v1 : Int) (v2 : Int) (v3 : Int) (h : Hp)   {P : Hp → Prop} (hh : OK (X2_compare v1 v2 v3 h) P) : CT G yX2_compare M_X2_compare 6 0 0 FN h [aR 61, aI v1, aI v2, aI v3] (fun r F' h' => F' = FN ∧ r = none ∧ P h') :=
  CT.of (by decide +kernel) rfl (Nat.le_of_ble_eq_true rfl) k_X2_compare fun k0 _ _ hM => c_X2_compare hM v1 v2 v3 h (fun z hz => ⟨rfl, rfl, hz⟩) hh

theorem mi_X2_bothHave : MIv yX2_bothHave M_X2_bothHave 0 := ⟨⟨(mem_GW 1192 (by decide +kernel) rfl), (mem_GW 130 (by decide +kernel) rfl), by decide +kernel, by decide +kernel, by decide +kernel, by decide⟩, (mem_GW 1190 (by decide +kernel) rfl), (mem_GW 1191 (by decide +kernel) rfl)⟩
set_option maxRecDepth 20000 in
set_option maxHeartbeats 4000000 in
theorem c_X2_bothHave {k0 : K0} {G : Gx} {Qp : Option AV → Fx → Hp → Prop} (hM : MB (KM k0 0 0 Qp) G M_X2_bothHave 1) (h : Hp)   {P : Int → Prop} (hq : ∀ z : Int, P z → Qp (some (aI z)) FN h) (hh : OK (X2_bothHave h) P) : ATk (KM k0 0 0 Qp) FN 0 0 M_X2_bothHave 0 [some (aR 61)] [] h := by
  unfold X2_bothHave at hh
  refine A_blk hM.1 2 (lv1 := [some (aR 61)]) (s1 := [aI (h 61 4)]) (h1 := h) rfl ?_
  exact A_reti hM.1 rfl rfl rfl (hq (h 61 4) hh)

set_option maxRecDepth 20000 in
set_option maxHeartbeats 4000000 in
theorem ct_X2_bothHave {G : Gx} (h : Hp)   {P : Int → Prop} (hh : OK (X2_bothHave h) P) : CT G yX2_bothHave M_X2_bothHave 1 0 0 FN h [aR 61] (fun r F' h' => F' = FN ∧ ∃ z, r = some (aI z) ∧ h' = h ∧ P z) :=
  CT.of (by decide +kernel) rfl (Nat.le_of_ble_eq_true rfl) k_X2_bothHave fun k0 _ _ hM => c_X2_bothHave hM h (fun z hz => ⟨rfl, z, rfl, rfl, hz⟩) hh

theorem mi_X2_slipsOfOne : MIv yX2_slipsOfOne M_X2_slipsOfOne 0 := ⟨⟨(mem_GW 1196 (by decide +kernel) rfl), (mem_GW 130 (by decide +kernel) rfl), by decide +kernel, by decide +kernel, by decide +kernel, by decide⟩, (mem_GW 1194 (by decide +kernel) rfl), (mem_GW 1195 (by decide +kernel) rfl)⟩
set_option maxRecDepth 20000 in
set_option maxHeartbeats 4000000 in
theorem c_X2_slipsOfOne {k0 : K0} {G : Gx} {Qp : Option AV → Fx → Hp → Prop} (hM : MB (KM k0 0 0 Qp) G M_X2_slipsOfOne 1) (h : Hp)   {P : Int → Prop} (hq : ∀ z : Int, P z → Qp (some (aI z)) FN h) (hh : OK (X2_slipsOfOne h) P) : ATk (KM k0 0 0 Qp) FN 0 0 M_X2_slipsOfOne 0 [some (aR 61)] [] h := by
  unfold X2_slipsOfOne at hh
  refine A_blk hM.1 2 (lv1 := [some (aR 61)]) (s1 := [aI (h 61 5)]) (h1 := h) rfl ?_
  exact A_reti hM.1 rfl rfl rfl (hq (h 61 5) hh)

set_option maxRecDepth 20000 in
set_option maxHeartbeats 4000000 in
theorem ct_X2_slipsOfOne {G : Gx} (h : Hp)   {P : Int → Prop} (hh : OK (X2_slipsOfOne h) P) : CT G yX2_slipsOfOne M_X2_slipsOfOne 1 0 0 FN h [aR 61] (fun r F' h' => F' = FN ∧ ∃ z, r = some (aI z) ∧ h' = h ∧ P z) :=
  CT.of (by decide +kernel) rfl (Nat.le_of_ble_eq_true rfl) k_X2_slipsOfOne fun k0 _ _ hM => c_X2_slipsOfOne hM h (fun z hz => ⟨rfl, z, rfl, rfl, hz⟩) hh

theorem mi_X2_slipsOfOther : MIv yX2_slipsOfOther M_X2_slipsOfOther 0 := ⟨⟨(mem_GW 1200 (by decide +kernel) rfl), (mem_GW 130 (by decide +kernel) rfl), by decide +kernel, by decide +kernel, by decide +kernel, by decide⟩, (mem_GW 1198 (by decide +kernel) rfl), (mem_GW 1199 (by decide +kernel) rfl)⟩
set_option maxRecDepth 20000 in
set_option maxHeartbeats 4000000 in
theorem c_X2_slipsOfOther {k0 : K0} {G : Gx} {Qp : Option AV → Fx → Hp → Prop} (hM : MB (KM k0 0 0 Qp) G M_X2_slipsOfOther 1) (h : Hp)   {P : Int → Prop} (hq : ∀ z : Int, P z → Qp (some (aI z)) FN h) (hh : OK (X2_slipsOfOther h) P) : ATk (KM k0 0 0 Qp) FN 0 0 M_X2_slipsOfOther 0 [some (aR 61)] [] h := by
  unfold X2_slipsOfOther at hh
  refine A_blk hM.1 2 (lv1 := [some (aR 61)]) (s1 := [aI (h 61 6)]) (h1 := h) rfl ?_
  exact A_reti hM.1 rfl rfl rfl (hq (h 61 6) hh)

set_option maxRecDepth 20000 in
set_option maxHeartbeats 4000000 in
theorem ct_X2_slipsOfOther {G : Gx} (h : Hp)   {P : Int → Prop} (hh : OK (X2_slipsOfOther h) P) : CT G yX2_slipsOfOther M_X2_slipsOfOther 1 0 0 FN h [aR 61] (fun r F' h' => F' = FN ∧ ∃ z, r = some (aI z) ∧ h' = h ∧ P z) :=
  CT.of (by decide +kernel) rfl (Nat.le_of_ble_eq_true rfl) k_X2_slipsOfOther fun k0 _ _ hM => c_X2_slipsOfOther hM h (fun z hz => ⟨rfl, z, rfl, rfl, hz⟩) hh

theorem mi_X2_alike : MIv yX2_alike M_X2_alike 0 := ⟨⟨(mem_GW 1204 (by decide +kernel) rfl), (mem_GW 130 (by decide +kernel) rfl), by decide +kernel, by decide +kernel, by decide +kernel, by decide⟩, (mem_GW 1202 (by decide +kernel) rfl), (mem_GW 1203 (by decide +kernel) rfl)⟩
set_option maxRecDepth 20000 in
set_option maxHeartbeats 4000000 in
theorem c_X2_alike {k0 : K0} {G : Gx} {Qp : Option AV → Fx → Hp → Prop} (hM : MB (KM k0 0 0 Qp) G M_X2_alike 1) (h : Hp)   {P : Int → Prop} (hq : ∀ z : Int, P z → Qp (some (aI z)) FN h) (hh : OK (X2_alike h) P) : ATk (KM k0 0 0 Qp) FN 0 0 M_X2_alike 0 [some (aR 61)] [] h := by
  unfold X2_alike at hh
  refine A_blk hM.1 2 (lv1 := [some (aR 61)]) (s1 := [aI (h 61 7)]) (h1 := h) rfl ?_
  exact A_reti hM.1 rfl rfl rfl (hq (h 61 7) hh)

set_option maxRecDepth 20000 in
set_option maxHeartbeats 4000000 in
theorem ct_X2_alike {G : Gx} (h : Hp)   {P : Int → Prop} (hh : OK (X2_alike h) P) : CT G yX2_alike M_X2_alike 1 0 0 FN h [aR 61] (fun r F' h' => F' = FN ∧ ∃ z, r = some (aI z) ∧ h' = h ∧ P z) :=
  CT.of (by decide +kernel) rfl (Nat.le_of_ble_eq_true rfl) k_X2_alike fun k0 _ _ hM => c_X2_alike hM h (fun z hz => ⟨rfl, z, rfl, rfl, hz⟩) hh

theorem mi_X4_above : MIv yX4_above M_X4_above 0 := ⟨⟨(mem_GW 1208 (by decide +kernel) rfl), (mem_GW 128 (by decide +kernel) rfl), by decide +kernel, by decide +kernel, by decide +kernel, by decide⟩, (mem_GW 1206 (by decide +kernel) rfl), (mem_GW 1207 (by decide +kernel) rfl)⟩
set_option maxRecDepth 20000 in
set_option maxHeartbeats 4000000 in
theorem c_X4_above {k0 : K0} {G : Gx} {Qp : Option AV → Fx → Hp → Prop} (hM : MB (KM k0 0 0 Qp) G M_X4_above 1) (h : Hp)   {P : Int → Prop} (hq : ∀ z : Int, P z → Qp (some (aL z)) FN h) (hh : OK (X4_above h) P) : ATk (KM k0 0 0 Qp) FN 0 0 M_X4_above 0 [some (aR 52)] [] h := by
  unfold X4_above at hh
  refine A_blk hM.1 2 (lv1 := [some (aR 52)]) (s1 := [aL (h 52 0)]) (h1 := h) rfl ?_
  exact A_retl hM.1 rfl rfl rfl (hq (h 52 0) hh)

set_option maxRecDepth 20000 in
set_option maxHeartbeats 4000000 in
theorem ct_X4_above {G : Gx} (h : Hp)   {P : Int → Prop} (hh : OK (X4_above h) P) : CT G yX4_above M_X4_above 1 0 0 FN h [aR 52] (fun r F' h' => F' = FN ∧ ∃ z, r = some (aL z) ∧ h' = h ∧ P z) :=
  CT.of (by decide +kernel) rfl (Nat.le_of_ble_eq_true rfl) k_X4_above fun k0 _ _ hM => c_X4_above hM h (fun z hz => ⟨rfl, z, rfl, rfl, hz⟩) hh

theorem mi_X4_below : MIv yX4_below M_X4_below 0 := ⟨⟨(mem_GW 1212 (by decide +kernel) rfl), (mem_GW 128 (by decide +kernel) rfl), by decide +kernel, by decide +kernel, by decide +kernel, by decide⟩, (mem_GW 1210 (by decide +kernel) rfl), (mem_GW 1211 (by decide +kernel) rfl)⟩
set_option maxRecDepth 20000 in
set_option maxHeartbeats 4000000 in
theorem c_X4_below {k0 : K0} {G : Gx} {Qp : Option AV → Fx → Hp → Prop} (hM : MB (KM k0 0 0 Qp) G M_X4_below 1) (h : Hp)   {P : Int → Prop} (hq : ∀ z : Int, P z → Qp (some (aL z)) FN h) (hh : OK (X4_below h) P) : ATk (KM k0 0 0 Qp) FN 0 0 M_X4_below 0 [some (aR 52)] [] h := by
  unfold X4_below at hh
  refine A_blk hM.1 2 (lv1 := [some (aR 52)]) (s1 := [aL (h 52 1)]) (h1 := h) rfl ?_
  exact A_retl hM.1 rfl rfl rfl (hq (h 52 1) hh)

set_option maxRecDepth 20000 in
set_option maxHeartbeats 4000000 in
theorem ct_X4_below {G : Gx} (h : Hp)   {P : Int → Prop} (hh : OK (X4_below h) P) : CT G yX4_below M_X4_below 1 0 0 FN h [aR 52] (fun r F' h' => F' = FN ∧ ∃ z, r = some (aL z) ∧ h' = h ∧ P z) :=
  CT.of (by decide +kernel) rfl (Nat.le_of_ble_eq_true rfl) k_X4_below fun k0 _ _ hM => c_X4_below hM h (fun z hz => ⟨rfl, z, rfl, rfl, hz⟩) hh

theorem mi_X11_shared : MIv yX11_shared M_X11_shared 4 := ⟨⟨(mem_GW 1165 (by decide +kernel) rfl), (mem_GW 123 (by decide +kernel) rfl), by decide +kernel, by decide +kernel, by decide +kernel, by decide⟩, (mem_GW 1163 (by decide +kernel) rfl), (mem_GW 1164 (by decide +kernel) rfl)⟩
set_option maxRecDepth 20000 in
set_option maxHeartbeats 4000000 in
theorem c_X11_shared {k0 : K0} {G : Gx} {Qp : Option AV → Fx → Hp → Prop} (hM : MB (KM k0 0 0 Qp) G M_X11_shared 7) (v1 : Int) (v2 : Int) (v3 : Int) (v4 : Int) (h : Hp)   {P : (Int × Hp) → Prop} (hq : ∀ z : Int × Hp, P z → Qp (some (aL z.1)) FN z.2) (hh : OK (X11_shared v1 v2 v3 v4 h) P) : ATk (KM k0 0 0 Qp) FN 0 0 M_X11_shared 0 [some (aR 0), some (aI v1), some (aI v2), some (aI v3), some (aI v4)] [] h := by
  unfold X11_shared at hh
  refine A_blk hM.1 3 (lv1 := [some (aR 0), some (aI v1), some (aI v2), some (aI v3), some (aI v4)]) (s1 := [aI v1, aR 3]) (h1 := h) rfl ?_
  refine A_callV hM rfl rfl (mem_GW 665 (by decide +kernel) rfl) mi_X7_isWriter (As := [aI v1]) (rest := []) (ct_X7_isWriter v1 h (OK_bind hh)) (by decide) ⟨Nat.zero_le _, Nat.zero_le _⟩ rfl rfl (Nat.le_of_ble_eq_true rfl) (by decide) rfl (by decide) rfl (fun r F' h' hq1 => ?_)
  obtain ⟨rfl, r1, rfl, e9, hh⟩ := hq1
  subst h'
  refine A_ifc hM.1 rfl rfl (fun hc => ?_) (fun hc => ?_)
  · replace hh := OK_t hh hc
    refine A_blk hM.1 1 (lv1 := [some (aR 0), some (aI v1), some (aI v2), some (aI v3), some (aI v4)]) (s1 := [aL (-1)]) (h1 := h) rfl ?_
    exact A_retl hM.1 rfl rfl rfl (hq ((-1), h) hh)
  · replace hh := OK_f hh hc
    refine A_blk hM.1 3 (lv1 := [some (aR 0), some (aI v1), some (aI v2), some (aI v3), some (aI v4)]) (s1 := [aI v2, aR 3]) (h1 := h) rfl ?_
    refine A_callV hM rfl rfl (mem_GW 665 (by decide +kernel) rfl) mi_X7_isWriter (As := [aI v2]) (rest := []) (ct_X7_isWriter v2 h (OK_bind hh)) (by decide) ⟨Nat.zero_le _, Nat.zero_le _⟩ rfl rfl (Nat.le_of_ble_eq_true rfl) (by decide) rfl (by decide) rfl (fun r F' h' hq1 => ?_)
    obtain ⟨rfl, r2, rfl, e9, hh⟩ := hq1
    subst h'
    refine A_ifc hM.1 rfl rfl (fun hc => ?_) (fun hc => ?_)
    · replace hh := OK_t hh hc
      refine A_blk hM.1 1 (lv1 := [some (aR 0), some (aI v1), some (aI v2), some (aI v3), some (aI v4)]) (s1 := [aL (-1)]) (h1 := h) rfl ?_
      exact A_retl hM.1 rfl rfl rfl (hq ((-1), h) hh)
    · replace hh := OK_f hh hc
      refine A_blk hM.1 2 (lv1 := [some (aR 0), some (aI v1), some (aI v2), some (aI v3), some (aI v4)]) (s1 := [aI v2, aI v1]) (h1 := h) rfl ?_
      refine A_icmp hM.1 rfl rfl (fun hc => ?_) (fun hc => ?_)
      · replace hh := OK_t hh hc
        refine A_blk hM.1 1 (lv1 := [some (aR 0), some (aI v1), some (aI v2), some (aI v3), some (aI v4)]) (s1 := [aL (-1)]) (h1 := h) rfl ?_
        exact A_retl hM.1 rfl rfl rfl (hq ((-1), h) hh)
      · replace hh := OK_f hh hc
        refine A_blk hM.1 3 (lv1 := [some (aR 0), some (aI v1), some (aI v2), some (aI v3), some (aI v4)]) (s1 := [aI v3, aR 3]) (h1 := h) rfl ?_
        refine A_callV hM rfl rfl (mem_GW 636 (by decide +kernel) rfl) mi_X7_isLeft (As := [aI v3]) (rest := []) (ct_X7_isLeft v3 h (OK_bind hh)) (by decide) ⟨Nat.zero_le _, Nat.zero_le _⟩ rfl rfl (Nat.le_of_ble_eq_true rfl) (by decide) rfl (by decide) rfl (fun r F' h' hq1 => ?_)
        obtain ⟨rfl, r3, rfl, e9, hh⟩ := hq1
        subst h'
        refine A_ifc hM.1 rfl rfl (fun hc => ?_) (fun hc => ?_)
        · replace hh := OK_t hh hc
          refine A_blk hM.1 5 (lv1 := [some (aR 0), some (aI v1), some (aI v2), some (aI v3), some (aI v4)]) (s1 := [aI v3, aI v2, aI v1, aR 61]) (h1 := h) rfl ?_
          refine A_callV hM rfl rfl (mem_GW 1166 (by decide +kernel) rfl) mi_X2_compare (As := [aI v1, aI v2, aI v3]) (rest := []) (ct_X2_compare v1 v2 v3 h (OK_bind hh)) (by decide) ⟨Nat.zero_le _, Nat.zero_le _⟩ rfl rfl (Nat.le_of_ble_eq_true rfl) (by decide) rfl (by decide) rfl (fun r F' h' hq1 => ?_)
          obtain ⟨rfl, rfl, hh⟩ := hq1
          obtain ⟨r4, rfl⟩ : ∃ z, z = h' := ⟨_, rfl⟩
          refine A_blk hM.1 1 (lv1 := [some (aR 0), some (aI v1), some (aI v2), some (aI v3), some (aI v4)]) (s1 := [aI v4]) (h1 := r4) rfl ?_
          refine A_tsw hM.1 rfl [(0, 28), (1, 33), (2, 38), (3, 43), (4, 48), (5, 52)] 56 (by decide +kernel) ?_
          refine ⟨fun hc => ?_, fun hc => ?_⟩
          · replace hh := OK_t hh hc
            refine A_blk hM.1 2 (lv1 := [some (aR 0), some (aI v1), some (aI v2), some (aI v3), some (aI v4)]) (s1 := [aR 61]) (h1 := r4) rfl ?_
            refine A_callV hM rfl rfl (mem_GW 1189 (by decide +kernel) rfl) mi_X2_bothHave (As := []) (rest := []) (ct_X2_bothHave r4 (OK_bind hh)) (by decide) ⟨Nat.zero_le _, Nat.zero_le _⟩ rfl rfl (Nat.le_of_ble_eq_true rfl) (by decide) rfl (by decide) rfl (fun r F' h' hq1 => ?_)
            obtain ⟨rfl, r5, rfl, e9, hh⟩ := hq1
            subst h'
            refine A_blk hM.1 1 (lv1 := [some (aR 0), some (aI v1), some (aI v2), some (aI v3), some (aI v4)]) (s1 := [aL (w32 r5)]) (h1 := r4) rfl ?_
            exact A_retl hM.1 rfl rfl rfl (hq (w32 r5, r4) hh)
          replace hh := OK_f hh hc
          refine ⟨fun hc => ?_, fun hc => ?_⟩
          · replace hh := OK_t hh hc
            refine A_blk hM.1 2 (lv1 := [some (aR 0), some (aI v1), some (aI v2), some (aI v3), some (aI v4)]) (s1 := [aR 61]) (h1 := r4) rfl ?_
            refine A_callV hM rfl rfl (mem_GW 1193 (by decide +kernel) rfl) mi_X2_slipsOfOne (As := []) (rest := []) (ct_X2_slipsOfOne r4 (OK_bind hh)) (by decide) ⟨Nat.zero_le _, Nat.zero_le _⟩ rfl rfl (Nat.le_of_ble_eq_true rfl) (by decide) rfl (by decide) rfl (fun r F' h' hq1 => ?_)
            obtain ⟨rfl, r6, rfl, e9, hh⟩ := hq1
            subst h'
            refine A_blk hM.1 1 (lv1 := [some (aR 0), some (aI v1), some (aI v2), some (aI v3), some (aI v4)]) (s1 := [aL (w32 r6)]) (h1 := r4) rfl ?_
            exact A_retl hM.1 rfl rfl rfl (hq (w32 r6, r4) hh)
          replace hh := OK_f hh hc
          refine ⟨fun hc => ?_, fun hc => ?_⟩
          · replace hh := OK_t hh hc
            refine A_blk hM.1 2 (lv1 := [some (aR 0), some (aI v1), some (aI v2), some (aI v3), some (aI v4)]) (s1 := [aR 61]) (h1 := r4) rfl ?_
            refine A_callV hM rfl rfl (mem_GW 1197 (by decide +kernel) rfl) mi_X2_slipsOfOther (As := []) (rest := []) (ct_X2_slipsOfOther r4 (OK_bind hh)) (by decide) ⟨Nat.zero_le _, Nat.zero_le _⟩ rfl rfl (Nat.le_of_ble_eq_true rfl) (by decide) rfl (by decide) rfl (fun r F' h' hq1 => ?_)
            obtain ⟨rfl, r7, rfl, e9, hh⟩ := hq1
            subst h'
            refine A_blk hM.1 1 (lv1 := [some (aR 0), some (aI v1), some (aI v2), some (aI v3), some (aI v4)]) (s1 := [aL (w32 r7)]) (h1 := r4) rfl ?_
            exact A_retl hM.1 rfl rfl rfl (hq (w32 r7, r4) hh)
          replace hh := OK_f hh hc
          refine ⟨fun hc => ?_, fun hc => ?_⟩
          · replace hh := OK_t hh hc
            refine A_blk hM.1 2 (lv1 := [some (aR 0), some (aI v1), some (aI v2), some (aI v3), some (aI v4)]) (s1 := [aR 61]) (h1 := r4) rfl ?_
            refine A_callV hM rfl rfl (mem_GW 1201 (by decide +kernel) rfl) mi_X2_alike (As := []) (rest := []) (ct_X2_alike r4 (OK_bind hh)) (by decide) ⟨Nat.zero_le _, Nat.zero_le _⟩ rfl rfl (Nat.le_of_ble_eq_true rfl) (by decide) rfl (by decide) rfl (fun r F' h' hq1 => ?_)
            obtain ⟨rfl, r8, rfl, e9, hh⟩ := hq1
            subst h'
            refine A_blk hM.1 1 (lv1 := [some (aR 0), some (aI v1), some (aI v2), some (aI v3), some (aI v4)]) (s1 := [aL (w32 r8)]) (h1 := r4) rfl ?_
            exact A_retl hM.1 rfl rfl rfl (hq (w32 r8, r4) hh)
          replace hh := OK_f hh hc
          refine ⟨fun hc => ?_, fun hc => ?_⟩
          · replace hh := OK_t hh hc
            refine A_blk hM.1 2 (lv1 := [some (aR 0), some (aI v1), some (aI v2), some (aI v3), some (aI v4)]) (s1 := [aR 52]) (h1 := r4) rfl ?_
            refine A_callV hM rfl rfl (mem_GW 1205 (by decide +kernel) rfl) mi_X4_above (As := []) (rest := []) (ct_X4_above r4 (OK_bind hh)) (by decide) ⟨Nat.zero_le _, Nat.zero_le _⟩ rfl rfl (Nat.le_of_ble_eq_true rfl) (by decide) rfl (by decide) rfl (fun r F' h' hq1 => ?_)
            obtain ⟨rfl, r9, rfl, e9, hh⟩ := hq1
            subst h'
            exact A_retl hM.1 rfl rfl rfl (hq (r9, r4) hh)
          replace hh := OK_f hh hc
          refine ⟨fun hc => ?_, fun hc => ?_⟩
          · replace hh := OK_t hh hc
            refine A_blk hM.1 2 (lv1 := [some (aR 0), some (aI v1), some (aI v2), some (aI v3), some (aI v4)]) (s1 := [aR 52]) (h1 := r4) rfl ?_
            refine A_callV hM rfl rfl (mem_GW 1209 (by decide +kernel) rfl) mi_X4_below (As := []) (rest := []) (ct_X4_below r4 (OK_bind hh)) (by decide) ⟨Nat.zero_le _, Nat.zero_le _⟩ rfl rfl (Nat.le_of_ble_eq_true rfl) (by decide) rfl (by decide) rfl (fun r F' h' hq1 => ?_)
            obtain ⟨rfl, r10, rfl, e9, hh⟩ := hq1
            subst h'
            exact A_retl hM.1 rfl rfl rfl (hq (r10, r4) hh)
          replace hh := OK_f hh hc
          refine A_blk hM.1 1 (lv1 := [some (aR 0), some (aI v1), some (aI v2), some (aI v3), some (aI v4)]) (s1 := [aL (-1)]) (h1 := r4) rfl ?_
          exact A_retl hM.1 rfl rfl rfl (hq ((-1), r4) hh)
        · replace hh := OK_f hh hc
          refine A_blk hM.1 1 (lv1 := [some (aR 0), some (aI v1), some (aI v2), some (aI v3), some (aI v4)]) (s1 := [aL (-1)]) (h1 := h) rfl ?_
          exact A_retl hM.1 rfl rfl rfl (hq ((-1), h) hh)

set_option maxRecDepth 20000 in
set_option maxHeartbeats 4000000 in
theorem ct_X11_shared {G : Gx} (v1 : Int) (v2 : Int) (v3 : Int) (v4 : Int) (h : Hp)   {P : (Int × Hp) → Prop} (hh : OK (X11_shared v1 v2 v3 v4 h) P) : CT G yX11_shared M_X11_shared 7 0 0 FN h [aR 0, aI v1, aI v2, aI v3, aI v4] (fun r F' h' => F' = FN ∧ ∃ z, r = some (aL z.1) ∧ h' = z.2 ∧ P z) :=
  CT.of (by decide +kernel) rfl (Nat.le_of_ble_eq_true rfl) k_X11_shared fun k0 _ _ hM => c_X11_shared hM v1 v2 v3 v4 h (fun z hz => ⟨rfl, z, rfl, rfl, hz⟩) hh

theorem mi_J6_numberOfTrailingZeros : MIs yJ6_numberOfTrailingZeros_0f7a4 M_J6_numberOfTrailingZeros 1 := ⟨(mem_GW 1219 (by decide +kernel) rfl), (mem_GW 144 (by decide +kernel) rfl), by decide +kernel, by decide +kernel, by decide +kernel, by decide⟩
theorem ms_J6_numberOfTrailingZeros : .static yJ6_numberOfTrailingZeros_0f7a4 ∈ GW := (mem_GW 1218 (by decide +kernel) rfl)
set_option maxRecDepth 20000 in
set_option maxHeartbeats 4000000 in
theorem c_J6_numberOfTrailingZeros_j48 {k0 : K0} {G : Gx} {Qp : Option AV → Fx → Hp → Prop} (hM : MB (KM k0 0 0 Qp) G M_J6_numberOfTrailingZeros 1) (v0 : Int) (v1 : Int) (h : Hp)  {P : Int → Prop} (hq : ∀ z : Int, P z → Qp (some (aI z)) FN h) (hh : OK (J6_numberOfTrailingZeros_j48 v0 v1) P) : ATk (KM k0 0 0 Qp) FN 0 0 M_J6_numberOfTrailingZeros 48 [some (aI v0), some (aI v1)] [] h := by
  unfold J6_numberOfTrailingZeros_j48 at hh
  refine A_blk hM.1 5 (lv1 := [some (aI v0), some (aI v1)]) (s1 := [aI (v1 + (ushr32 v0 1))]) (h1 := h) rfl ?_
  exact A_reti hM.1 rfl rfl rfl (hq (v1 + (ushr32 v0 1)) hh)

set_option maxRecDepth 20000 in
set_option maxHeartbeats 4000000 in
theorem c_J6_numberOfTrailingZeros_j40 {k0 : K0} {G : Gx} {Qp : Option AV → Fx → Hp → Prop} (hM : MB (KM k0 0 0 Qp) G M_J6_numberOfTrailingZeros 1) (v0 : Int) (v1 : Int) (h : Hp)  {P : Int → Prop} (hq : ∀ z : Int, P z → Qp (some (aI z)) FN h) (hh : OK (J6_numberOfTrailingZeros_j40 v0 v1) P) : ATk (KM k0 0 0 Qp) FN 0 0 M_J6_numberOfTrailingZeros 40 [some (aI v0), some (aI v1)] [] h := by
  unfold J6_numberOfTrailingZeros_j40 at hh
  refine A_blk hM.1 2 (lv1 := [some (aI v0), some (aI v1)]) (s1 := [aI 4, aI v0]) (h1 := h) rfl ?_
  refine A_icmp hM.1 rfl rfl (fun hc => ?_) (fun hc => ?_)
  · replace hh := OK_t hh hc
    exact c_J6_numberOfTrailingZeros_j48 hM v0 v1 h hq hh
  · replace hh := OK_f hh hc
    refine A_blk hM.1 5 (lv1 := [some (aI (ushr32 v0 2)), some (aI (v1 + 2))]) (s1 := []) (h1 := h) rfl ?_
    exact c_J6_numberOfTrailingZeros_j48 hM (ushr32 v0 2) (v1 + 2) h hq hh

set_option maxRecDepth 20000 in
set_option maxHeartbeats 4000000 in
theorem c_J6_numberOfTrailingZeros_j32 {k0 : K0} {G : Gx} {Qp : Option AV → Fx → Hp → Prop} (hM : MB (KM k0 0 0 Qp) G M_J6_numberOfTrailingZeros 1) (v0 : Int) (v1 : Int) (h : Hp)  {P : Int → Prop} (hq : ∀ z : Int, P z → Qp (some (aI z)) FN h) (hh : OK (J6_numberOfTrailingZeros_j32 v0 v1) P) : ATk (KM k0 0 0 Qp) FN 0 0 M_J6_numberOfTrailingZeros 32 [some (aI v0), some (aI v1)] [] h := by
  unfold J6_numberOfTrailingZeros_j32 at hh
  refine A_blk hM.1 2 (lv1 := [some (aI v0), some (aI v1)]) (s1 := [aI 16, aI v0]) (h1 := h) rfl ?_
  refine A_icmp hM.1 rfl rfl (fun hc => ?_) (fun hc => ?_)
  · replace hh := OK_t hh hc
    exact c_J6_numberOfTrailingZeros_j40 hM v0 v1 h hq hh
  · replace hh := OK_f hh hc
    refine A_blk hM.1 5 (lv1 := [some (aI (ushr32 v0 4)), some (aI (v1 + 4))]) (s1 := []) (h1 := h) rfl ?_
    exact c_J6_numberOfTrailingZeros_j40 hM (ushr32 v0 4) (v1 + 4) h hq hh

set_option maxRecDepth 20000 in
set_option maxHeartbeats 4000000 in
theorem c_J6_numberOfTrailingZeros_j24 {k0 : K0} {G : Gx} {Qp : Option AV → Fx → Hp → Prop} (hM : MB (KM k0 0 0 Qp) G M_J6_numberOfTrailingZeros 1) (v0 : Int) (v1 : Int) (h : Hp)  {P : Int → Prop} (hq : ∀ z : Int, P z → Qp (some (aI z)) FN h) (hh : OK (J6_numberOfTrailingZeros_j24 v0 v1) P) : ATk (KM k0 0 0 Qp) FN 0 0 M_J6_numberOfTrailingZeros 24 [some (aI v0), some (aI v1)] [] h := by
  unfold J6_numberOfTrailingZeros_j24 at hh
  refine A_blk hM.1 2 (lv1 := [some (aI v0), some (aI v1)]) (s1 := [aI 256, aI v0]) (h1 := h) rfl ?_
  refine A_icmp hM.1 rfl rfl (fun hc => ?_) (fun hc => ?_)
  · replace hh := OK_t hh hc
    exact c_J6_numberOfTrailingZeros_j32 hM v0 v1 h hq hh
  · replace hh := OK_f hh hc
    refine A_blk hM.1 5 (lv1 := [some (aI (ushr32 v0 8)), some (aI (v1 + 8))]) (s1 := []) (h1 := h) rfl ?_
    exact c_J6_numberOfTrailingZeros_j32 hM (ushr32 v0 8) (v1 + 8) h hq hh

set_option maxRecDepth 20000 in
set_option maxHeartbeats 4000000 in
theorem c_J6_numberOfTrailingZeros {k0 : K0} {G : Gx} {Qp : Option AV → Fx → Hp → Prop} (hM : MB (KM k0 0 0 Qp) G M_J6_numberOfTrailingZeros 1) (v0 : Int) (h : Hp)  {P : Int → Prop} (hq : ∀ z : Int, P z → Qp (some (aI z)) FN h) (hh : OK (J6_numberOfTrailingZeros v0) P) : ATk (KM k0 0 0 Qp) FN 0 0 M_J6_numberOfTrailingZeros 0 [some (aI v0), none] [] h := by
  unfold J6_numberOfTrailingZeros at hh
  refine A_blk hM.1 9 (lv1 := [some (aI (and32 (xor32 v0 (-1)) (v0 - 1))), none]) (s1 := [aI (and32 (xor32 v0 (-1)) (v0 - 1))]) (h1 := h) rfl ?_
  refine A_ifc hM.1 rfl rfl (fun hc => ?_) (fun hc => ?_)
  · replace hh := OK_t hh hc
    refine A_blk hM.1 4 (lv1 := [some (aI (and32 (xor32 v0 (-1)) (v0 - 1))), some (aI 1)]) (s1 := [aI 65536, aI (and32 (xor32 v0 (-1)) (v0 - 1))]) (h1 := h) rfl ?_
    refine A_icmp hM.1 rfl rfl (fun hc => ?_) (fun hc => ?_)
    · replace hh := OK_t hh hc
      exact c_J6_numberOfTrailingZeros_j24 hM (and32 (xor32 v0 (-1)) (v0 - 1)) 1 h hq hh
    · replace hh := OK_f hh hc
      refine A_blk hM.1 5 (lv1 := [some (aI (ushr32 (and32 (xor32 v0 (-1)) (v0 - 1)) 16)), some (aI (1 + 16))]) (s1 := []) (h1 := h) rfl ?_
      exact c_J6_numberOfTrailingZeros_j24 hM (ushr32 (and32 (xor32 v0 (-1)) (v0 - 1)) 16) (1 + 16) h hq hh
  · replace hh := OK_f hh hc
    refine A_blk hM.1 3 (lv1 := [some (aI (and32 (xor32 v0 (-1)) (v0 - 1))), none]) (s1 := [aI (and32 (and32 (xor32 v0 (-1)) (v0 - 1)) 32)]) (h1 := h) rfl ?_
    exact A_reti hM.1 rfl rfl rfl (hq (and32 (and32 (xor32 v0 (-1)) (v0 - 1)) 32) hh)

set_option maxRecDepth 20000 in
set_option maxHeartbeats 4000000 in
theorem ct_J6_numberOfTrailingZeros {G : Gx} (v0 : Int) (h : Hp)  {P : Int → Prop} (hh : OK (J6_numberOfTrailingZeros v0) P) : CT G yJ6_numberOfTrailingZeros_0f7a4 M_J6_numberOfTrailingZeros 1 0 0 FN h [aI v0] (fun r F' h' => F' = FN ∧ ∃ z, r = some (aI z) ∧ h' = h ∧ P z) :=
  CT.of (by decide +kernel) rfl (Nat.le_of_ble_eq_true rfl) k_J6_numberOfTrailingZeros fun k0 _ _ hM => c_J6_numberOfTrailingZeros hM v0 h (fun z hz => ⟨rfl, z, rfl, rfl, hz⟩) hh

theorem mi_X7_writers : MIv yX7_writers M_X7_writers 0 := ⟨⟨(mem_GW 1224 (by decide +kernel) rfl), (mem_GW 125 (by decide +kernel) rfl), by decide +kernel, by decide +kernel, by decide +kernel, by decide⟩, (mem_GW 1222 (by decide +kernel) rfl), (mem_GW 1223 (by decide +kernel) rfl)⟩
set_option maxRecDepth 20000 in
set_option maxHeartbeats 4000000 in
theorem c_X7_writers {k0 : K0} {G : Gx} {Qp : Option AV → Fx → Hp → Prop} (hM : MB (KM k0 0 0 Qp) G M_X7_writers 1) (h : Hp)   {P : Int → Prop} (hq : ∀ z : Int, P z → Qp (some (aI z)) FN h) (hh : OK (X7_writers h) P) : ATk (KM k0 0 0 Qp) FN 0 0 M_X7_writers 0 [some (aR 3)] [] h := by
  unfold X7_writers at hh
  refine A_blk hM.1 2 (lv1 := [some (aR 3)]) (s1 := [aI (h 3 9)]) (h1 := h) rfl ?_
  exact A_reti hM.1 rfl rfl rfl (hq (h 3 9) hh)

set_option maxRecDepth 20000 in
set_option maxHeartbeats 4000000 in
theorem ct_X7_writers {G : Gx} (h : Hp)   {P : Int → Prop} (hh : OK (X7_writers h) P) : CT G yX7_writers M_X7_writers 1 0 0 FN h [aR 3] (fun r F' h' => F' = FN ∧ ∃ z, r = some (aI z) ∧ h' = h ∧ P z) :=
  CT.of (by decide +kernel) rfl (Nat.le_of_ble_eq_true rfl) k_X7_writers fun k0 _ _ hM => c_X7_writers hM h (fun z hz => ⟨rfl, z, rfl, rfl, hz⟩) hh

theorem mi_X7_works : MIv yX7_works M_X7_works 0 := ⟨⟨(mem_GW 1232 (by decide +kernel) rfl), (mem_GW 125 (by decide +kernel) rfl), by decide +kernel, by decide +kernel, by decide +kernel, by decide⟩, (mem_GW 1230 (by decide +kernel) rfl), (mem_GW 1231 (by decide +kernel) rfl)⟩
set_option maxRecDepth 20000 in
set_option maxHeartbeats 4000000 in
theorem c_X7_works {k0 : K0} {G : Gx} {Qp : Option AV → Fx → Hp → Prop} (hM : MB (KM k0 0 0 Qp) G M_X7_works 1) (h : Hp)   {P : Int → Prop} (hq : ∀ z : Int, P z → Qp (some (aI z)) FN h) (hh : OK (X7_works h) P) : ATk (KM k0 0 0 Qp) FN 0 0 M_X7_works 0 [some (aR 3)] [] h := by
  unfold X7_works at hh
  refine A_blk hM.1 2 (lv1 := [some (aR 3)]) (s1 := [aI (h 3 3)]) (h1 := h) rfl ?_
  exact A_reti hM.1 rfl rfl rfl (hq (h 3 3) hh)

set_option maxRecDepth 20000 in
set_option maxHeartbeats 4000000 in
theorem ct_X7_works {G : Gx} (h : Hp)   {P : Int → Prop} (hh : OK (X7_works h) P) : CT G yX7_works M_X7_works 1 0 0 FN h [aR 3] (fun r F' h' => F' = FN ∧ ∃ z, r = some (aI z) ∧ h' = h ∧ P z) :=
  CT.of (by decide +kernel) rfl (Nat.le_of_ble_eq_true rfl) k_X7_works fun k0 _ _ hM => c_X7_works hM h (fun z hz => ⟨rfl, z, rfl, rfl, hz⟩) hh

theorem mi_X4_notAbove : MIv yX4_notAbove M_X4_notAbove 1 := ⟨⟨(mem_GW 1238 (by decide +kernel) rfl), (mem_GW 128 (by decide +kernel) rfl), by decide +kernel, by decide +kernel, by decide +kernel, by decide⟩, (mem_GW 1236 (by decide +kernel) rfl), (mem_GW 1237 (by decide +kernel) rfl)⟩
set_option maxRecDepth 20000 in
set_option maxHeartbeats 4000000 in
theorem c_X4_notAbove {k0 : K0} {G : Gx} {Qp : Option AV → Fx → Hp → Prop} (hM : MB (KM k0 0 0 Qp) G M_X4_notAbove 1) (v1 : Int) (h : Hp)   {P : Int → Prop} (hq : ∀ z : Int, P z → Qp (some (aI z)) FN h) (hh : OK (X4_notAbove v1 h) P) : ATk (KM k0 0 0 Qp) FN 0 0 M_X4_notAbove 0 [some (aR 52), some (aI v1)] [] h := by
  unfold X4_notAbove at hh
  refine A_blk hM.1 10 (lv1 := [some (aR 52), some (aI v1)]) (s1 := [aI (cmp64 ((h 52 0) * 1000) ((w32 v1) * (h 52 1)))]) (h1 := h) rfl ?_
  refine A_ifc hM.1 rfl rfl (fun hc => ?_) (fun hc => ?_)
  · replace hh := OK_t hh hc
    refine A_blk hM.1 1 (lv1 := [some (aR 52), some (aI v1)]) (s1 := [aI 0]) (h1 := h) rfl ?_
    exact A_retz hM.1 rfl rfl rfl (by decide) (hq 0 hh)
  · replace hh := OK_f hh hc
    refine A_blk hM.1 1 (lv1 := [some (aR 52), some (aI v1)]) (s1 := [aI 1]) (h1 := h) rfl ?_
    refine A_go hM.1 rfl rfl ?_
    exact A_retz hM.1 rfl rfl rfl (by decide) (hq 1 hh)

set_option maxRecDepth 20000 in
set_option maxHeartbeats 4000000 in
theorem ct_X4_notAbove {G : Gx} (v1 : Int) (h : Hp)   {P : Int → Prop} (hh : OK (X4_notAbove v1 h) P) : CT G yX4_notAbove M_X4_notAbove 1 0 0 FN h [aR 52, aI v1] (fun r F' h' => F' = FN ∧ ∃ z, r = some (aI z) ∧ h' = h ∧ P z) :=
  CT.of (by decide +kernel) rfl (Nat.le_of_ble_eq_true rfl) k_X4_notAbove fun k0 _ _ hM => c_X4_notAbove hM v1 h (fun z hz => ⟨rfl, z, rfl, rfl, hz⟩) hh

theorem mi_X2_hadMiddle : MIv yX2_hadMiddle M_X2_hadMiddle 3 := ⟨⟨(mem_GW 1228 (by decide +kernel) rfl), (mem_GW 130 (by decide +kernel) rfl), by decide +kernel, by decide +kernel, by decide +kernel, by decide⟩, (mem_GW 1226 (by decide +kernel) rfl), (mem_GW 1227 (by decide +kernel) rfl)⟩
set_option maxRecDepth 20000 in
set_option maxHeartbeats 4000000 in
theorem c_X2_hadMiddle_j27 {k0 : K0} {G : Gx} {Qp : Option AV → Fx → Hp → Prop} (hM : MB (KM k0 0 0 Qp) G M_X2_hadMiddle 7) (v1 : Int) (v2 : Int) (v3 : Int) (v4 : Int) (h : Hp)   {P : ((Int × Hp) ⊕ ((Hp) ⊕ (Hp))) → Prop} (hin : ∀ y : Int × Hp, P (.inl y) → ATk (KM k0 0 0 Qp) FN 0 0 M_X2_hadMiddle 2 [some (aR 61), some (aI v1), some (aI v2), some (aI v3), some (aI y.1)] [] y.2) (hout0 : ∀ y : Hp, P (.inr (.inl y)) → ATk (KM k0 0 0 Qp) FN 0 0 M_X2_hadMiddle 25 [none, none, none, none, none] [] y) (hout1 : ∀ y : Hp, P (.inr (.inr y)) → ATk (KM k0 0 0 Qp) FN 0 0 M_X2_hadMiddle 29 [none, none, none, none, none] [] y) (hh : OK (X2_hadMiddle_j27 v1 v2 v3 v4 h) P) : ATk (KM k0 0 0 Qp) FN 0 0 M_X2_hadMiddle 27 [some (aR 61), some (aI v1), some (aI v2), some (aI v3), some (aI v4)] [] h := by
  unfold X2_hadMiddle_j27 at hh
  refine A_blk hM.1 1 (lv1 := [some (aR 61), some (aI v1), some (aI v2), some (aI v3), some (aI (v4 + 1))]) (s1 := []) (h1 := h) rfl ?_
  refine A_go hM.1 rfl rfl ?_
  exact hin (v4 + 1, h) hh

set_option maxRecDepth 20000 in
set_option maxHeartbeats 4000000 in
theorem c_X2_hadMiddle_l2 {k0 : K0} {G : Gx} {Qp : Option AV → Fx → Hp → Prop} (hM : MB (KM k0 0 0 Qp) G M_X2_hadMiddle 7) (v1 : Int) (v2 : Int) (v3 : Int) (x : Int × Hp)   {P : ((Int × Hp) ⊕ ((Hp) ⊕ (Hp))) → Prop} (hin : ∀ y : Int × Hp, P (.inl y) → ATk (KM k0 0 0 Qp) FN 0 0 M_X2_hadMiddle 2 [some (aR 61), some (aI v1), some (aI v2), some (aI v3), some (aI y.1)] [] y.2) (hout0 : ∀ y : Hp, P (.inr (.inl y)) → ATk (KM k0 0 0 Qp) FN 0 0 M_X2_hadMiddle 25 [none, none, none, none, none] [] y) (hout1 : ∀ y : Hp, P (.inr (.inr y)) → ATk (KM k0 0 0 Qp) FN 0 0 M_X2_hadMiddle 29 [none, none, none, none, none] [] y) (hh : OK (X2_hadMiddle_l2 v1 v2 v3 x) P) : ATk (KM k0 0 0 Qp) FN 0 0 M_X2_hadMiddle 2 [some (aR 61), some (aI v1), some (aI v2), some (aI v3), some (aI x.1)] [] x.2 := by
  unfold X2_hadMiddle_l2 at hh
  refine A_blk hM.1 3 (lv1 := [some (aR 61), some (aI v1), some (aI v2), some (aI v3), some (aI x.1)]) (s1 := [aR 3, aI x.1]) (h1 := x.2) rfl ?_
  refine A_callV hM rfl rfl (mem_GW 1229 (by decide +kernel) rfl) mi_X7_works (As := []) (rest := [aI x.1]) (ct_X7_works x.2 (OK_bind hh)) (by decide) ⟨Nat.zero_le _, Nat.zero_le _⟩ rfl rfl (Nat.le_of_ble_eq_true rfl) (by decide) rfl (by decide) rfl (fun r F' h' hq1 => ?_)
  obtain ⟨rfl, r1, rfl, e9, hh⟩ := hq1
  subst h'
  refine A_icmp hM.1 rfl rfl (fun hc => ?_) (fun hc => ?_)
  · replace hh := OK_t hh hc
    refine A_mask [false, false, false, false, false] (lv1 := [none, none, none, none, none]) rfl ?_
    exact hout1 x.2 hh
  · replace hh := OK_f hh hc
    refine A_blk hM.1 3 (lv1 := [some (aR 61), some (aI v1), some (aI v2), some (aI v3), some (aI x.1)]) (s1 := [aI x.1, aR 3]) (h1 := x.2) rfl ?_
    refine A_callV hM rfl rfl (mem_GW 1233 (by decide +kernel) rfl) mi_X7_isLeft (As := [aI x.1]) (rest := []) (ct_X7_isLeft x.1 x.2 (OK_bind hh)) (by decide) ⟨Nat.zero_le _, Nat.zero_le _⟩ rfl rfl (Nat.le_of_ble_eq_true rfl) (by decide) rfl (by decide) rfl (fun r F' h' hq1 => ?_)
    obtain ⟨rfl, r2, rfl, e9, hh⟩ := hq1
    subst h'
    refine A_ifc hM.1 rfl rfl (fun hc => ?_) (fun hc => ?_)
    · replace hh := OK_t hh hc
      exact c_X2_hadMiddle_j27 hM v1 v2 v3 x.1 x.2 hin hout0 hout1 hh
    · replace hh := OK_f hh hc
      refine A_blk hM.1 4 (lv1 := [some (aR 61), some (aI v1), some (aI v2), some (aI v3), some (aI x.1)]) (s1 := [aI x.1, aI v2, aI v1, aR 61]) (h1 := x.2) rfl ?_
      refine A_callV hM rfl rfl (mem_GW 1234 (by decide +kernel) rfl) mi_X2_compare (As := [aI v1, aI v2, aI x.1]) (rest := []) (ct_X2_compare v1 v2 x.1 x.2 (OK_bind hh)) (by decide) ⟨Nat.zero_le _, Nat.zero_le _⟩ rfl rfl (Nat.le_of_ble_eq_true rfl) (by decide) rfl (by decide) rfl (fun r F' h' hq1 => ?_)
      obtain ⟨rfl, rfl, hh⟩ := hq1
      obtain ⟨r3, rfl⟩ : ∃ z, z = h' := ⟨_, rfl⟩
      refine A_blk hM.1 2 (lv1 := [some (aR 61), some (aI v1), some (aI v2), some (aI v3), some (aI x.1)]) (s1 := [aI (r3 61 7)]) (h1 := r3) rfl ?_
      refine A_ifc hM.1 rfl rfl (fun hc => ?_) (fun hc => ?_)
      · replace hh := OK_t hh hc
        exact c_X2_hadMiddle_j27 hM v1 v2 v3 x.1 r3 hin hout0 hout1 hh
      · replace hh := OK_f hh hc
        refine A_blk hM.1 3 (lv1 := [some (aR 61), some (aI v1), some (aI v2), some (aI v3), some (aI x.1)]) (s1 := [aI v3, aR 52]) (h1 := r3) rfl ?_
        refine A_callV hM rfl rfl (mem_GW 1235 (by decide +kernel) rfl) mi_X4_notAbove (As := [aI v3]) (rest := []) (ct_X4_notAbove v3 r3 (OK_bind hh)) (by decide) ⟨Nat.zero_le _, Nat.zero_le _⟩ rfl rfl (Nat.le_of_ble_eq_true rfl) (by decide) rfl (by decide) rfl (fun r F' h' hq1 => ?_)
        obtain ⟨rfl, r4, rfl, e9, hh⟩ := hq1
        subst h'
        refine A_ifc hM.1 rfl rfl (fun hc => ?_) (fun hc => ?_)
        · replace hh := OK_t hh hc
          exact c_X2_hadMiddle_j27 hM v1 v2 v3 x.1 r3 hin hout0 hout1 hh
        · replace hh := OK_f hh hc
          refine A_mask [false, false, false, false, false] (lv1 := [none, none, none, none, none]) rfl ?_
          exact hout0 r3 hh

set_option maxRecDepth 20000 in
set_option maxHeartbeats 4000000 in
theorem c_X2_hadMiddle {k0 : K0} {G : Gx} {Qp : Option AV → Fx → Hp → Prop} (hM : MB (KM k0 0 0 Qp) G M_X2_hadMiddle 7) (v1 : Int) (v2 : Int) (v3 : Int) (h : Hp)   {P : (Int × Hp) → Prop} (hq : ∀ z : Int × Hp, P z → Qp (some (aI z.1)) FN z.2) (hh : OK (X2_hadMiddle v1 v2 v3 h) P) : ATk (KM k0 0 0 Qp) FN 0 0 M_X2_hadMiddle 0 [some (aR 61), some (aI v1), some (aI v2), some (aI v3), none] [] h := by
  unfold X2_hadMiddle at hh
  refine A_blk hM.1 2 (lv1 := [some (aR 61), some (aI v1), some (aI v2), some (aI v3), some (aI 0)]) (s1 := []) (h1 := h) rfl ?_
  refine iter_ok (s := (0, h)) (Gp := fun z => ATk (KM k0 0 0 Qp) FN 0 0 M_X2_hadMiddle 2 [some (aR 61), some (aI v1), some (aI v2), some (aI v3), some (aI z.1)] [] z.2) (E := fun z => (∀ y, z = (.inl y) → ATk (KM k0 0 0 Qp) FN 0 0 M_X2_hadMiddle 25 [none, none, none, none, none] [] y) ∧ (∀ y, z = (.inr y) → ATk (KM k0 0 0 Qp) FN 0 0 M_X2_hadMiddle 29 [none, none, none, none, none] [] y)) (fun z P1 g1 g2 g3 => c_X2_hadMiddle_l2 hM v1 v2 v3 z g2 (fun y hy => (g3 (.inl y) hy).1 y rfl) (fun y hy => (g3 (.inr y) hy).2 y rfl) g1) (OK_bind hh) (fun x5 hh => ?_)
  refine ⟨fun y e => ?_, fun y e => ?_⟩
  · obtain ⟨y6, rfl⟩ : ∃ z, z = y := ⟨_, rfl⟩
    subst e
    refine A_blk hM.1 1 (lv1 := [none, none, none, none, none]) (s1 := [aI 1]) (h1 := y6) rfl ?_
    exact A_retz hM.1 rfl rfl rfl (by decide) (hq (1, y6) hh)
  · obtain ⟨y7, rfl⟩ : ∃ z, z = y := ⟨_, rfl⟩
    subst e
    refine A_blk hM.1 1 (lv1 := [none, none, none, none, none]) (s1 := [aI 0]) (h1 := y7) rfl ?_
    exact A_retz hM.1 rfl rfl rfl (by decide) (hq (0, y7) hh)

set_option maxRecDepth 20000 in
set_option maxHeartbeats 4000000 in
theorem ct_X2_hadMiddle {G : Gx} (v1 : Int) (v2 : Int) (v3 : Int) (h : Hp)   {P : (Int × Hp) → Prop} (hh : OK (X2_hadMiddle v1 v2 v3 h) P) : CT G yX2_hadMiddle M_X2_hadMiddle 7 0 0 FN h [aR 61, aI v1, aI v2, aI v3] (fun r F' h' => F' = FN ∧ ∃ z, r = some (aI z.1) ∧ h' = z.2 ∧ P z) :=
  CT.of (by decide +kernel) rfl (Nat.le_of_ble_eq_true rfl) k_X2_hadMiddle fun k0 _ _ hM => c_X2_hadMiddle hM v1 v2 v3 h (fun z hz => ⟨rfl, z, rfl, rfl, hz⟩) hh

theorem mi_X11_groups : MIv yX11_groups M_X11_groups 2 := ⟨⟨(mem_GW 1216 (by decide +kernel) rfl), (mem_GW 123 (by decide +kernel) rfl), by decide +kernel, by decide +kernel, by decide +kernel, by decide⟩, (mem_GW 1214 (by decide +kernel) rfl), (mem_GW 1215 (by decide +kernel) rfl)⟩
set_option maxRecDepth 20000 in
set_option maxHeartbeats 4000000 in
theorem c_X11_groups_j65 {k0 : K0} {G : Gx} {Qp : Option AV → Fx → Hp → Prop} (hM : MB (KM k0 0 0 Qp) G M_X11_groups 8) (v2 : Int) (v3 : Int) (v4 : Int) (v5 : Int) (v6 : Int) (v7 : Int) (h : Hp)   {P : ((Int × Int × Hp) ⊕ (Int × Hp)) → Prop} (hin : ∀ y : Int × Int × Hp, P (.inl y) → ATk (KM k0 0 0 Qp) FN 0 0 M_X11_groups 41 [some (aR 0), none, some (aI v2), some (aI y.1), some (aI v4), some (aI v5), some (aI v6), some (aI y.2.1)] [] y.2.2) (hout0 : ∀ y : Int × Hp, P (.inr y) → ATk (KM k0 0 0 Qp) FN 0 0 M_X11_groups 67 [some (aR 0), none, some (aI v2), some (aI y.1), some (aI v4), some (aI v5), none, none] [] y.2) (hh : OK (X11_groups_j65 v2 v3 v4 v5 v6 v7 h) P) : ATk (KM k0 0 0 Qp) FN 0 0 M_X11_groups 65 [some (aR 0), none, some (aI v2), some (aI v3), some (aI v4), some (aI v5), some (aI v6), some (aI v7)] [] h := by
  unfold X11_groups_j65 at hh
  refine A_blk hM.1 1 (lv1 := [some (aR 0), none, some (aI v2), some (aI v3), some (aI v4), some (aI v5), some (aI v6), some (aI (v7 + 1))]) (s1 := []) (h1 := h) rfl ?_
  refine A_go hM.1 rfl rfl ?_
  exact hin (v3, v7 + 1, h) hh

set_option maxRecDepth 20000 in
set_option maxHeartbeats 4000000 in
theorem c_X11_groups_l41 {k0 : K0} {G : Gx} {Qp : Option AV → Fx → Hp → Prop} (hM : MB (KM k0 0 0 Qp) G M_X11_groups 8) (v2 : Int) (v4 : Int) (v5 : Int) (v6 : Int) (x : Int × Int × Hp)   {P : ((Int × Int × Hp) ⊕ (Int × Hp)) → Prop} (hin : ∀ y : Int × Int × Hp, P (.inl y) → ATk (KM k0 0 0 Qp) FN 0 0 M_X11_groups 41 [some (aR 0), none, some (aI v2), some (aI y.1), some (aI v4), some (aI v5), some (aI v6), some (aI y.2.1)] [] y.2.2) (hout0 : ∀ y : Int × Hp, P (.inr y) → ATk (KM k0 0 0 Qp) FN 0 0 M_X11_groups 67 [some (aR 0), none, some (aI v2), some (aI y.1), some (aI v4), some (aI v5), none, none] [] y.2) (hh : OK (X11_groups_l41 v2 v4 v5 v6 x) P) : ATk (KM k0 0 0 Qp) FN 0 0 M_X11_groups 41 [some (aR 0), none, some (aI v2), some (aI x.1), some (aI v4), some (aI v5), some (aI v6), some (aI x.2.1)] [] x.2.2 := by
  unfold X11_groups_l41 at hh
  refine A_blk hM.1 3 (lv1 := [some (aR 0), none, some (aI v2), some (aI x.1), some (aI v4), some (aI v5), some (aI v6), some (aI x.2.1)]) (s1 := [aR 3, aI x.2.1]) (h1 := x.2.2) rfl ?_
  refine A_callV hM rfl rfl (mem_GW 1221 (by decide +kernel) rfl) mi_X7_writers (As := []) (rest := [aI x.2.1]) (ct_X7_writers x.2.2 (OK_bind hh)) (by decide) ⟨Nat.zero_le _, Nat.zero_le _⟩ rfl rfl (Nat.le_of_ble_eq_true rfl) (by decide) rfl (by decide) rfl (fun r F' h' hq1 => ?_)
  obtain ⟨rfl, r4, rfl, e9, hh⟩ := hq1
  subst h'
  refine A_icmp hM.1 rfl rfl (fun hc => ?_) (fun hc => ?_)
  · replace hh := OK_t hh hc
    refine A_mask [true, true, true, true, true, true, false, false] (lv1 := [some (aR 0), none, some (aI v2), some (aI x.1), some (aI v4), some (aI v5), none, none]) rfl ?_
    exact hout0 (x.1, x.2.2) hh
  · replace hh := OK_f hh hc
    refine A_blk hM.1 5 (lv1 := [some (aR 0), none, some (aI v2), some (aI x.1), some (aI v4), some (aI v5), some (aI v6), some (aI x.2.1)]) (s1 := [aI (and32 (ushr32 x.1 x.2.1) 1)]) (h1 := x.2.2) rfl ?_
    refine A_ifc hM.1 rfl rfl (fun hc => ?_) (fun hc => ?_)
    · replace hh := OK_t hh hc
      exact c_X11_groups_j65 hM v2 x.1 v4 v5 v6 x.2.1 x.2.2 hin hout0 hh
    · replace hh := OK_f hh hc
      refine A_blk hM.1 5 (lv1 := [some (aR 0), none, some (aI v2), some (aI x.1), some (aI v4), some (aI v5), some (aI v6), some (aI x.2.1)]) (s1 := [aI v2, aI x.2.1, aI v6, aR 61]) (h1 := x.2.2) rfl ?_
      refine A_callV hM rfl rfl (mem_GW 1225 (by decide +kernel) rfl) mi_X2_hadMiddle (As := [aI v6, aI x.2.1, aI v2]) (rest := []) (ct_X2_hadMiddle v6 x.2.1 v2 x.2.2 (OK_bind hh)) (by decide) ⟨Nat.zero_le _, Nat.zero_le _⟩ rfl rfl (Nat.le_of_ble_eq_true rfl) (by decide) rfl (by decide) rfl (fun r F' h' hq1 => ?_)
      obtain ⟨rfl, r5, rfl, e9, hh⟩ := hq1
      subst h'
      refine A_ifc hM.1 rfl rfl (fun hc => ?_) (fun hc => ?_)
      · replace hh := OK_t hh hc
        exact c_X11_groups_j65 hM v2 x.1 v4 v5 v6 x.2.1 r5.2 hin hout0 hh
      · replace hh := OK_f hh hc
        refine A_blk hM.1 6 (lv1 := [some (aR 0), none, some (aI v2), some (aI (or32 x.1 (shl32 1 x.2.1))), some (aI v4), some (aI v5), some (aI v6), some (aI x.2.1)]) (s1 := []) (h1 := r5.2) rfl ?_
        exact c_X11_groups_j65 hM v2 (or32 x.1 (shl32 1 x.2.1)) v4 v5 v6 x.2.1 r5.2 hin hout0 hh

set_option maxRecDepth 20000 in
set_option maxHeartbeats 4000000 in
theorem c_X11_groups_l20 {k0 : K0} {G : Gx} {Qp : Option AV → Fx → Hp → Prop} (hM : MB (KM k0 0 0 Qp) G M_X11_groups 8) (v2 : Int) (x : Int × Int × Int × Hp)   {P : ((Int × Int × Int × Hp) ⊕ (Int × Hp)) → Prop} (hin : ∀ y : Int × Int × Int × Hp, P (.inl y) → ATk (KM k0 0 0 Qp) FN 0 0 M_X11_groups 20 [some (aR 0), none, some (aI v2), some (aI y.1), some (aI y.2.1), some (aI y.2.2.1), none, none] [] y.2.2.2) (hout0 : ∀ y : Int × Hp, P (.inr y) → ATk (KM k0 0 0 Qp) FN 0 0 M_X11_groups 69 [none, none, none, some (aI y.1), none, none, none, none] [] y.2) (hh : OK (X11_groups_l20 v2 x) P) : ATk (KM k0 0 0 Qp) FN 0 0 M_X11_groups 20 [some (aR 0), none, some (aI v2), some (aI x.1), some (aI x.2.1), some (aI x.2.2.1), none, none] [] x.2.2.2 := by
  unfold X11_groups_l20 at hh
  refine A_blk hM.1 2 (lv1 := [some (aR 0), none, some (aI v2), some (aI x.1), some (aI x.2.1), some (aI x.2.2.1), none, none]) (s1 := [aI 8, aI x.2.2.1]) (h1 := x.2.2.2) rfl ?_
  refine A_icmp hM.1 rfl rfl (fun hc => ?_) (fun hc => ?_)
  · replace hh := OK_t hh hc
    refine A_mask [false, true, false, true, false, false, true, true] (lv1 := [none, none, none, some (aI x.1), none, none, none, none]) rfl ?_
    exact hout0 (x.1, x.2.2.2) hh
  · replace hh := OK_f hh hc
    refine A_blk hM.1 2 (lv1 := [some (aR 0), none, some (aI v2), some (aI x.1), some (aI x.2.1), some (aI x.2.2.1), none, none]) (s1 := [aI x.1, aI x.2.1]) (h1 := x.2.2.2) rfl ?_
    refine A_icmp hM.1 rfl rfl (fun hc => ?_) (fun hc => ?_)
    · replace hh := OK_t hh hc
      refine A_mask [false, true, false, true, false, false, true, true] (lv1 := [none, none, none, some (aI x.1), none, none, none, none]) rfl ?_
      exact hout0 (x.1, x.2.2.2) hh
    · replace hh := OK_f hh hc
      refine A_blk hM.1 5 (lv1 := [some (aR 0), none, some (aI v2), some (aI x.1), some (aI x.2.1), some (aI x.2.2.1), none, none]) (s1 := [aI (and32 x.1 (xor32 x.2.1 (-1)))]) (h1 := x.2.2.2) rfl ?_
      refine A_callS hM rfl rfl (mem_GW 1217 (by decide +kernel) rfl) mi_J6_numberOfTrailingZeros ms_J6_numberOfTrailingZeros (As := [aI (and32 x.1 (xor32 x.2.1 (-1)))]) (rest := []) (ct_J6_numberOfTrailingZeros (and32 x.1 (xor32 x.2.1 (-1))) x.2.2.2 (OK_bind hh)) (by decide) ⟨Nat.zero_le _, Nat.zero_le _⟩ rfl rfl (Nat.le_of_ble_eq_true rfl) (fun r F' h' hq1 => ?_)
      obtain ⟨rfl, r3, rfl, e9, hh⟩ := hq1
      subst h'
      refine A_blk hM.1 9 (lv1 := [some (aR 0), none, some (aI v2), some (aI x.1), some (aI (or32 x.2.1 (shl32 1 r3))), some (aI x.2.2.1), some (aI r3), some (aI 0)]) (s1 := []) (h1 := x.2.2.2) rfl ?_
      refine iter_ok (s := (x.1, 0, x.2.2.2)) (Gp := fun z => ATk (KM k0 0 0 Qp) FN 0 0 M_X11_groups 41 [some (aR 0), none, some (aI v2), some (aI z.1), some (aI (or32 x.2.1 (shl32 1 r3))), some (aI x.2.2.1), some (aI r3), some (aI z.2.1)] [] z.2.2) (E := fun z => ATk (KM k0 0 0 Qp) FN 0 0 M_X11_groups 67 [some (aR 0), none, some (aI v2), some (aI z.1), some (aI (or32 x.2.1 (shl32 1 r3))), some (aI x.2.2.1), none, none] [] z.2) (fun z P1 g1 g2 g3 => c_X11_groups_l41 hM v2 (or32 x.2.1 (shl32 1 r3)) x.2.2.1 r3 z g2 g3 g1) (OK_bind hh) (fun x6 hh => ?_)
      refine A_blk hM.1 1 (lv1 := [some (aR 0), none, some (aI v2), some (aI x6.1), some (aI (or32 x.2.1 (shl32 1 r3))), some (aI (x.2.2.1 + 1)), none, none]) (s1 := []) (h1 := x6.2) rfl ?_
      refine A_go hM.1 rfl rfl ?_
      exact hin (x6.1, or32 x.2.1 (shl32 1 r3), x.2.2.1 + 1, x6.2) hh

set_option maxRecDepth 20000 in
set_option maxHeartbeats 4000000 in
theorem c_X11_groups {k0 : K0} {G : Gx} {Qp : Option AV → Fx → Hp → Prop} (hM : MB (KM k0 0 0 Qp) G M_X11_groups 8) (v1 : Int) (v2 : Int) (h : Hp)   {P : (Int × Hp) → Prop} (hq : ∀ z : Int × Hp, P z → Qp (some (aI z.1)) FN z.2) (hh : OK (X11_groups v1 v2 h) P) : ATk (KM k0 0 0 Qp) FN 0 0 M_X11_groups 0 [some (aR 0), some (aI v1), some (aI v2), none, none, none, none, none] [] h := by
  unfold X11_groups at hh
  refine A_blk hM.1 3 (lv1 := [some (aR 0), some (aI v1), some (aI v2), none, none, none, none, none]) (s1 := [aI v1, aR 3]) (h1 := h) rfl ?_
  refine A_callV hM rfl rfl (mem_GW 665 (by decide +kernel) rfl) mi_X7_isWriter (As := [aI v1]) (rest := []) (ct_X7_isWriter v1 h (OK_bind hh)) (by decide) ⟨Nat.zero_le _, Nat.zero_le _⟩ rfl rfl (Nat.le_of_ble_eq_true rfl) (by decide) rfl (by decide) rfl (fun r F' h' hq1 => ?_)
  obtain ⟨rfl, r1, rfl, e9, hh⟩ := hq1
  subst h'
  refine A_ifc hM.1 rfl rfl (fun hc => ?_) (fun hc => ?_)
  · replace hh := OK_t hh hc
    refine A_blk hM.1 1 (lv1 := [some (aR 0), some (aI v1), some (aI v2), none, none, none, none, none]) (s1 := [aI (-1)]) (h1 := h) rfl ?_
    exact A_reti hM.1 rfl rfl rfl (hq ((-1), h) hh)
  · replace hh := OK_f hh hc
    refine A_blk hM.1 3 (lv1 := [some (aR 0), some (aI v1), some (aI v2), none, none, none, none, none]) (s1 := [aI 1000, aI 0, aI v2]) (h1 := h) rfl ?_
    refine A_callS hM rfl rfl (mem_GW 576 (by decide +kernel) rfl) mi_X11_within ms_X11_within (As := [aI v2, aI 0, aI 1000]) (rest := []) (ct_X11_within v2 0 1000 h (OK_bind hh)) (by decide) ⟨Nat.zero_le _, Nat.zero_le _⟩ rfl rfl (Nat.le_of_ble_eq_true rfl) (fun r F' h' hq1 => ?_)
    obtain ⟨rfl, r2, rfl, e9, hh⟩ := hq1
    subst h'
    refine A_ifc hM.1 rfl rfl (fun hc => ?_) (fun hc => ?_)
    · replace hh := OK_t hh hc
      refine A_blk hM.1 8 (lv1 := [some (aR 0), some (aI v1), some (aI v2), some (aI (shl32 1 v1)), some (aI 0), some (aI 0), none, none]) (s1 := []) (h1 := h) rfl ?_
      refine A_mask [true, false, true, true, true, true, true, true] (lv1 := [some (aR 0), none, some (aI v2), some (aI (shl32 1 v1)), some (aI 0), some (aI 0), none, none]) rfl ?_
      refine iter_ok (s := (shl32 1 v1, 0, 0, h)) (Gp := fun z => ATk (KM k0 0 0 Qp) FN 0 0 M_X11_groups 20 [some (aR 0), none, some (aI v2), some (aI z.1), some (aI z.2.1), some (aI z.2.2.1), none, none] [] z.2.2.2) (E := fun z => ATk (KM k0 0 0 Qp) FN 0 0 M_X11_groups 69 [none, none, none, some (aI z.1), none, none, none, none] [] z.2) (fun z P1 g1 g2 g3 => c_X11_groups_l20 hM v2 z g2 g3 g1) (OK_bind hh) (fun x7 hh => ?_)
      refine A_blk hM.1 1 (lv1 := [none, none, none, some (aI x7.1), none, none, none, none]) (s1 := [aI x7.1]) (h1 := x7.2) rfl ?_
      exact A_reti hM.1 rfl rfl rfl (hq (x7.1, x7.2) hh)
    · replace hh := OK_f hh hc
      refine A_blk hM.1 1 (lv1 := [some (aR 0), some (aI v1), some (aI v2), none, none, none, none, none]) (s1 := [aI (-1)]) (h1 := h) rfl ?_
      exact A_reti hM.1 rfl rfl rfl (hq ((-1), h) hh)

set_option maxRecDepth 20000 in
set_option maxHeartbeats 4000000 in
theorem ct_X11_groups {G : Gx} (v1 : Int) (v2 : Int) (h : Hp)   {P : (Int × Hp) → Prop} (hh : OK (X11_groups v1 v2 h) P) : CT G yX11_groups M_X11_groups 8 0 0 FN h [aR 0, aI v1, aI v2] (fun r F' h' => F' = FN ∧ ∃ z, r = some (aI z.1) ∧ h' = z.2 ∧ P z) :=
  CT.of (by decide +kernel) rfl (Nat.le_of_ble_eq_true rfl) k_X11_groups fun k0 _ _ hM => c_X11_groups hM v1 v2 h (fun z hz => ⟨rfl, z, rfl, rfl, hz⟩) hh

theorem mi_X2_costFromOther : MIv yX2_costFromOther M_X2_costFromOther 0 := ⟨⟨(mem_GW 1253 (by decide +kernel) rfl), (mem_GW 130 (by decide +kernel) rfl), by decide +kernel, by decide +kernel, by decide +kernel, by decide⟩, (mem_GW 1252 (by decide +kernel) rfl), (mem_GW 36 (by decide +kernel) rfl)⟩
set_option maxRecDepth 20000 in
set_option maxHeartbeats 4000000 in
theorem c_X2_costFromOther {k0 : K0} {G : Gx} {Qp : Option AV → Fx → Hp → Prop} (hM : MB (KM k0 0 0 Qp) G M_X2_costFromOther 5) (h : Hp)   {P : Int → Prop} (hq : ∀ z : Int, P z → Qp (some (aI z)) FN h) (hh : OK (X2_costFromOther h) P) : ATk (KM k0 0 0 Qp) FN 0 0 M_X2_costFromOther 0 [some (aR 61), none, none, none, none] [] h := by
  unfold X2_costFromOther at hh
  refine A_blk hM.1 2 (lv1 := [some (aR 61), none, none, none, none]) (s1 := [aR 62]) (h1 := h) rfl ?_
  refine A_callV hM rfl rfl (mem_GW 1172 (by decide +kernel) rfl) mi_X8_marks (As := []) (rest := []) (ct_X8_marks 62 h (by decide) (OK_bind hh)) (by decide) ⟨Nat.zero_le _, Nat.zero_le _⟩ rfl rfl (Nat.le_of_ble_eq_true rfl) (by decide) rfl (by decide) rfl (fun r F' h' hq1 => ?_)
  obtain ⟨rfl, r1, rfl, e9, hh⟩ := hq1
  subst h'
  refine A_blk hM.1 4 (lv1 := [some (aR 61), none, none, none, none]) (s1 := [aR 64, aR 62, aL r1]) (h1 := h) rfl ?_
  refine A_callV hM rfl rfl (mem_GW 1173 (by decide +kernel) rfl) mi_X8_alikeWith (As := [aR 64]) (rest := [aL r1]) (ct_X8_alikeWith h (OK_bind hh)) (by decide) ⟨Nat.zero_le _, Nat.zero_le _⟩ rfl rfl (Nat.le_of_ble_eq_true rfl) (by decide) rfl (by decide) rfl (fun r F' h' hq1 => ?_)
  obtain ⟨rfl, r2, rfl, e9, hh⟩ := hq1
  subst h'
  refine A_blk hM.1 6 (lv1 := [some (aR 61), some (aL (and64 r1 (xor64 r2 (-1)))), none, none, none]) (s1 := [aR 64]) (h1 := h) rfl ?_
  refine A_callV hM rfl rfl (mem_GW 1172 (by decide +kernel) rfl) mi_X8_marks (As := []) (rest := []) (ct_X8_marks 64 h (by decide) (OK_bind hh)) (by decide) ⟨Nat.zero_le _, Nat.zero_le _⟩ rfl rfl (Nat.le_of_ble_eq_true rfl) (by decide) rfl (by decide) rfl (fun r F' h' hq1 => ?_)
  obtain ⟨rfl, r3, rfl, e9, hh⟩ := hq1
  subst h'
  refine A_blk hM.1 2 (lv1 := [some (aR 61), some (aL (and64 r1 (xor64 r2 (-1)))), none, none, none]) (s1 := [aR 62, aL r3]) (h1 := h) rfl ?_
  refine A_callV hM rfl rfl (mem_GW 1170 (by decide +kernel) rfl) mi_X8_places (As := []) (rest := [aL r3]) (ct_X8_places 62 h (by decide) (OK_bind hh)) (by decide) ⟨Nat.zero_le _, Nat.zero_le _⟩ rfl rfl (Nat.le_of_ble_eq_true rfl) (by decide) rfl (by decide) rfl (fun r F' h' hq1 => ?_)
  obtain ⟨rfl, r4, rfl, e9, hh⟩ := hq1
  subst h'
  refine A_blk hM.1 3 (lv1 := [some (aR 61), some (aL (and64 r1 (xor64 r2 (-1)))), none, none, none]) (s1 := [aR 62, aL (and64 r3 r4)]) (h1 := h) rfl ?_
  refine A_callV hM rfl rfl (mem_GW 1172 (by decide +kernel) rfl) mi_X8_marks (As := []) (rest := [aL (and64 r3 r4)]) (ct_X8_marks 62 h (by decide) (OK_bind hh)) (by decide) ⟨Nat.zero_le _, Nat.zero_le _⟩ rfl rfl (Nat.le_of_ble_eq_true rfl) (by decide) rfl (by decide) rfl (fun r F' h' hq1 => ?_)
  obtain ⟨rfl, r5, rfl, e9, hh⟩ := hq1
  subst h'
  refine A_blk hM.1 6 (lv1 := [some (aR 61), some (aL (and64 r1 (xor64 r2 (-1)))), none, some (aL (and64 (and64 r3 r4) (xor64 r5 (-1)))), none]) (s1 := [aL (and64 r1 (xor64 r2 (-1))), aI 1]) (h1 := h) rfl ?_
  refine A_callS hM rfl rfl (mem_GW 1171 (by decide +kernel) rfl) mi_J13_bitCount ms_J13_bitCount (As := [aL (and64 r1 (xor64 r2 (-1)))]) (rest := [aI 1]) (ct_J13_bitCount (and64 r1 (xor64 r2 (-1))) h (OK_bind hh)) (by decide) ⟨Nat.zero_le _, Nat.zero_le _⟩ rfl rfl (Nat.le_of_ble_eq_true rfl) (fun r F' h' hq1 => ?_)
  obtain ⟨rfl, r6, rfl, e9, hh⟩ := hq1
  subst h'
  refine A_blk hM.1 3 (lv1 := [some (aR 61), some (aL (and64 r1 (xor64 r2 (-1)))), none, some (aL (and64 (and64 r3 r4) (xor64 r5 (-1)))), none]) (s1 := [aL (and64 (and64 r3 r4) (xor64 r5 (-1))), aI 2, aI (1 + r6)]) (h1 := h) rfl ?_
  refine A_callS hM rfl rfl (mem_GW 1171 (by decide +kernel) rfl) mi_J13_bitCount ms_J13_bitCount (As := [aL (and64 (and64 r3 r4) (xor64 r5 (-1)))]) (rest := [aI 2, aI (1 + r6)]) (ct_J13_bitCount (and64 (and64 r3 r4) (xor64 r5 (-1))) h (OK_bind hh)) (by decide) ⟨Nat.zero_le _, Nat.zero_le _⟩ rfl rfl (Nat.le_of_ble_eq_true rfl) (fun r F' h' hq1 => ?_)
  obtain ⟨rfl, r7, rfl, e9, hh⟩ := hq1
  subst h'
  refine A_blk hM.1 2 (lv1 := [some (aR 61), some (aL (and64 r1 (xor64 r2 (-1)))), none, some (aL (and64 (and64 r3 r4) (xor64 r5 (-1)))), none]) (s1 := [aI ((1 + r6) + (2 * r7))]) (h1 := h) rfl ?_
  exact A_reti hM.1 rfl rfl rfl (hq ((1 + r6) + (2 * r7)) hh)

set_option maxRecDepth 20000 in
set_option maxHeartbeats 4000000 in
theorem ct_X2_costFromOther {G : Gx} (h : Hp)   {P : Int → Prop} (hh : OK (X2_costFromOther h) P) : CT G yX2_costFromOther M_X2_costFromOther 5 0 0 FN h [aR 61] (fun r F' h' => F' = FN ∧ ∃ z, r = some (aI z) ∧ h' = h ∧ P z) :=
  CT.of (by decide +kernel) rfl (Nat.le_of_ble_eq_true rfl) k_X2_costFromOther fun k0 _ _ hM => c_X2_costFromOther hM h (fun z hz => ⟨rfl, z, rfl, rfl, hz⟩) hh

theorem mi_X2_findSource : MIv yX2_findSource M_X2_findSource 2 := ⟨⟨(mem_GW 1247 (by decide +kernel) rfl), (mem_GW 130 (by decide +kernel) rfl), by decide +kernel, by decide +kernel, by decide +kernel, by decide⟩, (mem_GW 1245 (by decide +kernel) rfl), (mem_GW 1246 (by decide +kernel) rfl)⟩
set_option maxRecDepth 20000 in
set_option maxHeartbeats 4000000 in
theorem c_X2_findSource_j60 {k0 : K0} {G : Gx} {Qp : Option AV → Fx → Hp → Prop} (hM : MB (KM k0 0 0 Qp) G M_X2_findSource 6) (v1 : Int) (v2 : Int) (v3 : Int) (h : Hp)   {P : ((Int × Hp) ⊕ (Hp)) → Prop} (hin : ∀ y : Int × Hp, P (.inl y) → ATk (KM k0 0 0 Qp) FN 0 0 M_X2_findSource 16 [some (aR 61), some (aI v1), some (aI v2), some (aI y.1), none] [] y.2) (hout0 : ∀ y : Hp, P (.inr y) → ATk (KM k0 0 0 Qp) FN 0 0 M_X2_findSource 62 [none, none, none, none, none] [] y) (hh : OK (X2_findSource_j60 v1 v2 v3 h) P) : ATk (KM k0 0 0 Qp) FN 0 0 M_X2_findSource 60 [some (aR 61), some (aI v1), some (aI v2), some (aI v3), none] [] h := by
  unfold X2_findSource_j60 at hh
  refine A_blk hM.1 1 (lv1 := [some (aR 61), some (aI v1), some (aI v2), some (aI (v3 + 1)), none]) (s1 := []) (h1 := h) rfl ?_
  refine A_go hM.1 rfl rfl ?_
  exact hin (v3 + 1, h) hh

set_option maxRecDepth 20000 in
set_option maxHeartbeats 4000000 in
theorem c_X2_findSource_l16 {k0 : K0} {G : Gx} {Qp : Option AV → Fx → Hp → Prop} (hM : MB (KM k0 0 0 Qp) G M_X2_findSource 6) (v1 : Int) (v2 : Int) (x : Int × Hp)   {P : ((Int × Hp) ⊕ (Hp)) → Prop} (hin : ∀ y : Int × Hp, P (.inl y) → ATk (KM k0 0 0 Qp) FN 0 0 M_X2_findSource 16 [some (aR 61), some (aI v1), some (aI v2), some (aI y.1), none] [] y.2) (hout0 : ∀ y : Hp, P (.inr y) → ATk (KM k0 0 0 Qp) FN 0 0 M_X2_findSource 62 [none, none, none, none, none] [] y) (hh : OK (X2_findSource_l16 v1 v2 x) P) : ATk (KM k0 0 0 Qp) FN 0 0 M_X2_findSource 16 [some (aR 61), some (aI v1), some (aI v2), some (aI x.1), none] [] x.2 := by
  unfold X2_findSource_l16 at hh
  refine A_blk hM.1 3 (lv1 := [some (aR 61), some (aI v1), some (aI v2), some (aI x.1), none]) (s1 := [aR 3, aI x.1]) (h1 := x.2) rfl ?_
  refine A_callV hM rfl rfl (mem_GW 1248 (by decide +kernel) rfl) mi_X7_writers (As := []) (rest := [aI x.1]) (ct_X7_writers x.2 (OK_bind hh)) (by decide) ⟨Nat.zero_le _, Nat.zero_le _⟩ rfl rfl (Nat.le_of_ble_eq_true rfl) (by decide) rfl (by decide) rfl (fun r F' h' hq1 => ?_)
  obtain ⟨rfl, r4, rfl, e9, hh⟩ := hq1
  subst h'
  refine A_icmp hM.1 rfl rfl (fun hc => ?_) (fun hc => ?_)
  · replace hh := OK_t hh hc
    refine A_mask [false, false, false, false, true] (lv1 := [none, none, none, none, none]) rfl ?_
    exact hout0 x.2 hh
  · replace hh := OK_f hh hc
    refine A_blk hM.1 3 (lv1 := [some (aR 61), some (aI v1), some (aI v2), some (aI x.1), none]) (s1 := [aI x.1, aR 3]) (h1 := x.2) rfl ?_
    refine A_callV hM rfl rfl (mem_GW 1249 (by decide +kernel) rfl) mi_X7_writerYear (As := [aI x.1]) (rest := []) (ct_X7_writerYear x.1 x.2 (OK_bind hh)) (by decide) ⟨Nat.zero_le _, Nat.zero_le _⟩ rfl rfl (Nat.le_of_ble_eq_true rfl) (by decide) rfl (by decide) rfl (fun r F' h' hq1 => ?_)
    obtain ⟨rfl, r5, rfl, e9, hh⟩ := hq1
    subst h'
    refine A_blk hM.1 3 (lv1 := [some (aR 61), some (aI v1), some (aI v2), some (aI x.1), none]) (s1 := [aI v1, aR 3, aI r5]) (h1 := x.2) rfl ?_
    refine A_callV hM rfl rfl (mem_GW 1249 (by decide +kernel) rfl) mi_X7_writerYear (As := [aI v1]) (rest := [aI r5]) (ct_X7_writerYear v1 x.2 (OK_bind hh)) (by decide) ⟨Nat.zero_le _, Nat.zero_le _⟩ rfl rfl (Nat.le_of_ble_eq_true rfl) (by decide) rfl (by decide) rfl (fun r F' h' hq1 => ?_)
    obtain ⟨rfl, r6, rfl, e9, hh⟩ := hq1
    subst h'
    refine A_icmp hM.1 rfl rfl (fun hc => ?_) (fun hc => ?_)
    · replace hh := OK_t hh hc
      exact c_X2_findSource_j60 hM v1 v2 x.1 x.2 hin hout0 hh
    · replace hh := OK_f hh hc
      refine A_blk hM.1 4 (lv1 := [some (aR 61), some (aI v1), some (aI v2), some (aI x.1), none]) (s1 := [aI v2, aI x.1, aR 64]) (h1 := x.2) rfl ?_
      refine A_callV hM rfl rfl (mem_GW 1101 (by decide +kernel) rfl) mi_X8_gather (As := [aI x.1, aI v2]) (rest := []) (ct_X8_gather 64 x.1 v2 x.2 (by decide) (OK_bind hh)) (by decide) ⟨Nat.zero_le _, Nat.zero_le _⟩ rfl rfl (Nat.le_of_ble_eq_true rfl) (by decide) rfl (by decide) rfl (fun r F' h' hq1 => ?_)
      obtain ⟨rfl, rfl, hh⟩ := hq1
      obtain ⟨r7, rfl⟩ : ∃ z, z = h' := ⟨_, rfl⟩
      refine A_blk hM.1 1 (lv1 := [some (aR 61), some (aI v1), some (aI v2), some (aI x.1), none]) (s1 := [aR 61]) (h1 := r7) rfl ?_
      refine A_callV hM rfl rfl (mem_GW 1250 (by decide +kernel) rfl) mi_X2_costFromOther (As := []) (rest := []) (ct_X2_costFromOther r7 (OK_bind hh)) (by decide) ⟨Nat.zero_le _, Nat.zero_le _⟩ rfl rfl (Nat.le_of_ble_eq_true rfl) (by decide) rfl (by decide) rfl (fun r F' h' hq1 => ?_)
      obtain ⟨rfl, r8, rfl, e9, hh⟩ := hq1
      subst h'
      refine A_blk hM.1 3 (lv1 := [some (aR 61), some (aI v1), some (aI v2), some (aI x.1), some (aI r8)]) (s1 := [aR 62]) (h1 := r7) rfl ?_
      refine A_callV hM rfl rfl (mem_GW 1170 (by decide +kernel) rfl) mi_X8_places (As := []) (rest := []) (ct_X8_places 62 r7 (by decide) (OK_bind hh)) (by decide) ⟨Nat.zero_le _, Nat.zero_le _⟩ rfl rfl (Nat.le_of_ble_eq_true rfl) (by decide) rfl (by decide) rfl (fun r F' h' hq1 => ?_)
      obtain ⟨rfl, r9, rfl, e9, hh⟩ := hq1
      subst h'
      refine A_blk hM.1 2 (lv1 := [some (aR 61), some (aI v1), some (aI v2), some (aI x.1), some (aI r8)]) (s1 := [aR 64, aL r9]) (h1 := r7) rfl ?_
      refine A_callV hM rfl rfl (mem_GW 1170 (by decide +kernel) rfl) mi_X8_places (As := []) (rest := [aL r9]) (ct_X8_places 64 r7 (by decide) (OK_bind hh)) (by decide) ⟨Nat.zero_le _, Nat.zero_le _⟩ rfl rfl (Nat.le_of_ble_eq_true rfl) (by decide) rfl (by decide) rfl (fun r F' h' hq1 => ?_)
      obtain ⟨rfl, r10, rfl, e9, hh⟩ := hq1
      subst h'
      refine A_blk hM.1 5 (lv1 := [some (aR 61), some (aI v1), some (aI v2), some (aI x.1), some (aI r8)]) (s1 := [aI (cmp64 (and64 r9 (xor64 r10 (-1))) 0)]) (h1 := r7) rfl ?_
      refine A_ifc hM.1 rfl rfl (fun hc => ?_) (fun hc => ?_)
      · replace hh := OK_t hh hc
        refine A_mask [true, true, true, true, false] (lv1 := [some (aR 61), some (aI v1), some (aI v2), some (aI x.1), none]) rfl ?_
        exact c_X2_findSource_j60 hM v1 v2 x.1 r7 hin hout0 hh
      · replace hh := OK_f hh hc
        refine A_blk hM.1 3 (lv1 := [some (aR 61), some (aI v1), some (aI v2), some (aI x.1), some (aI r8)]) (s1 := [aI (r7 61 9), aI r8]) (h1 := r7) rfl ?_
        refine A_icmp hM.1 rfl rfl (fun hc => ?_) (fun hc => ?_)
        · replace hh := OK_t hh hc
          refine A_mask [true, true, true, true, false] (lv1 := [some (aR 61), some (aI v1), some (aI v2), some (aI x.1), none]) rfl ?_
          exact c_X2_findSource_j60 hM v1 v2 x.1 r7 hin hout0 hh
        · replace hh := OK_f hh hc
          refine A_blk hM.1 6 (lv1 := [some (aR 61), some (aI v1), some (aI v2), some (aI x.1), some (aI r8)]) (s1 := []) (h1 := setH (setH r7 61 8 x.1) 61 9 r8) rfl ?_
          refine A_mask [true, true, true, true, false] (lv1 := [some (aR 61), some (aI v1), some (aI v2), some (aI x.1), none]) rfl ?_
          exact c_X2_findSource_j60 hM v1 v2 x.1 (setH (setH r7 61 8 x.1) 61 9 r8) hin hout0 hh

set_option maxRecDepth 20000 in
set_option maxHeartbeats 4000000 in
theorem c_X2_findSource {k0 : K0} {G : Gx} {Qp : Option AV → Fx → Hp → Prop} (hM : MB (KM k0 0 0 Qp) G M_X2_findSource 6) (v1 : Int) (v2 : Int) (h : Hp)   {P : Hp → Prop} (hq : ∀ z : Hp, P z → Qp none FN z) (hh : OK (X2_findSource v1 v2 h) P) : ATk (KM k0 0 0 Qp) FN 0 0 M_X2_findSource 0 [some (aR 61), some (aI v1), some (aI v2), none, none] [] h := by
  unfold X2_findSource at hh
  refine A_blk hM.1 4 (lv1 := [some (aR 61), some (aI v1), some (aI v2), none, none]) (s1 := [aI v2, aI v1, aR 62]) (h1 := h) rfl ?_
  refine A_callV hM rfl rfl (mem_GW 1101 (by decide +kernel) rfl) mi_X8_gather (As := [aI v1, aI v2]) (rest := []) (ct_X8_gather 62 v1 v2 h (by decide) (OK_bind hh)) (by decide) ⟨Nat.zero_le _, Nat.zero_le _⟩ rfl rfl (Nat.le_of_ble_eq_true rfl) (by decide) rfl (by decide) rfl (fun r F' h' hq1 => ?_)
  obtain ⟨rfl, rfl, hh⟩ := hq1
  obtain ⟨r1, rfl⟩ : ∃ z, z = h' := ⟨_, rfl⟩
  refine A_blk hM.1 6 (lv1 := [some (aR 61), some (aI v1), some (aI v2), none, none]) (s1 := [aR 62, aR 61]) (h1 := setH r1 61 8 (-1)) rfl ?_
  refine A_callV hM rfl rfl (mem_GW 1172 (by decide +kernel) rfl) mi_X8_marks (As := []) (rest := [aR 61]) (ct_X8_marks 62 (setH r1 61 8 (-1)) (by decide) (OK_bind hh)) (by decide) ⟨Nat.zero_le _, Nat.zero_le _⟩ rfl rfl (Nat.le_of_ble_eq_true rfl) (by decide) rfl (by decide) rfl (fun r F' h' hq1 => ?_)
  obtain ⟨rfl, r2, rfl, e9, hh⟩ := hq1
  subst h'
  refine A_callS hM rfl rfl (mem_GW 1171 (by decide +kernel) rfl) mi_J13_bitCount ms_J13_bitCount (As := [aL r2]) (rest := [aR 61]) (ct_J13_bitCount r2 (setH r1 61 8 (-1)) (OK_bind hh)) (by decide) ⟨Nat.zero_le _, Nat.zero_le _⟩ rfl rfl (Nat.le_of_ble_eq_true rfl) (fun r F' h' hq1 => ?_)
  obtain ⟨rfl, r3, rfl, e9, hh⟩ := hq1
  subst h'
  refine A_blk hM.1 3 (lv1 := [some (aR 61), some (aI v1), some (aI v2), some (aI 0), none]) (s1 := []) (h1 := setH (setH r1 61 8 (-1)) 61 9 r3) rfl ?_
  refine iter_ok (s := (0, setH (setH r1 61 8 (-1)) 61 9 r3)) (Gp := fun z => ATk (KM k0 0 0 Qp) FN 0 0 M_X2_findSource 16 [some (aR 61), some (aI v1), some (aI v2), some (aI z.1), none] [] z.2) (E := fun z => ATk (KM k0 0 0 Qp) FN 0 0 M_X2_findSource 62 [none, none, none, none, none] [] z) (fun z P1 g1 g2 g3 => c_X2_findSource_l16 hM v1 v2 z g2 g3 g1) (OK_bind hh) (fun x11 hh => ?_)
  exact A_retv hM.1 rfl rfl rfl (hq x11 hh)

set_option maxRecDepth 20000 in
set_option maxHeartbeats 4000000 in
theorem ct_X2_findSource {G : Gx} (v1 : Int) (v2 : Int) (h : Hp)   {P : Hp → Prop} (hh : OK (X2_findSource v1 v2 h) P) : CT G yX2_findSource M_X2_findSource 6 0 0 FN h [aR 61, aI v1, aI v2] (fun r F' h' => F' = FN ∧ r = none ∧ P h') :=
  CT.of (by decide +kernel) rfl (Nat.le_of_ble_eq_true rfl) k_X2_findSource fun k0 _ _ hM => c_X2_findSource hM v1 v2 h (fun z hz => ⟨rfl, rfl, hz⟩) hh

theorem mi_X2_hasPlaces : MIv yX2_hasPlaces M_X2_hasPlaces 0 := ⟨⟨(mem_GW 1258 (by decide +kernel) rfl), (mem_GW 130 (by decide +kernel) rfl), by decide +kernel, by decide +kernel, by decide +kernel, by decide⟩, (mem_GW 1256 (by decide +kernel) rfl), (mem_GW 1257 (by decide +kernel) rfl)⟩
set_option maxRecDepth 20000 in
set_option maxHeartbeats 4000000 in
theorem c_X2_hasPlaces {k0 : K0} {G : Gx} {Qp : Option AV → Fx → Hp → Prop} (hM : MB (KM k0 0 0 Qp) G M_X2_hasPlaces 2) (h : Hp)   {P : Int → Prop} (hq : ∀ z : Int, P z → Qp (some (aI z)) FN h) (hh : OK (X2_hasPlaces h) P) : ATk (KM k0 0 0 Qp) FN 0 0 M_X2_hasPlaces 0 [some (aR 61)] [] h := by
  unfold X2_hasPlaces at hh
  refine A_blk hM.1 2 (lv1 := [some (aR 61)]) (s1 := [aR 62]) (h1 := h) rfl ?_
  refine A_callV hM rfl rfl (mem_GW 1170 (by decide +kernel) rfl) mi_X8_places (As := []) (rest := []) (ct_X8_places 62 h (by decide) (OK_bind hh)) (by decide) ⟨Nat.zero_le _, Nat.zero_le _⟩ rfl rfl (Nat.le_of_ble_eq_true rfl) (by decide) rfl (by decide) rfl (fun r F' h' hq1 => ?_)
  obtain ⟨rfl, r1, rfl, e9, hh⟩ := hq1
  subst h'
  refine A_blk hM.1 2 (lv1 := [some (aR 61)]) (s1 := [aI (cmp64 r1 0)]) (h1 := h) rfl ?_
  refine A_ifc hM.1 rfl rfl (fun hc => ?_) (fun hc => ?_)
  · replace hh := OK_t hh hc
    refine A_blk hM.1 1 (lv1 := [some (aR 61)]) (s1 := [aI 0]) (h1 := h) rfl ?_
    exact A_retz hM.1 rfl rfl rfl (by decide) (hq 0 hh)
  · replace hh := OK_f hh hc
    refine A_blk hM.1 1 (lv1 := [some (aR 61)]) (s1 := [aI 1]) (h1 := h) rfl ?_
    refine A_go hM.1 rfl rfl ?_
    exact A_retz hM.1 rfl rfl rfl (by decide) (hq 1 hh)

set_option maxRecDepth 20000 in
set_option maxHeartbeats 4000000 in
theorem ct_X2_hasPlaces {G : Gx} (h : Hp)   {P : Int → Prop} (hh : OK (X2_hasPlaces h) P) : CT G yX2_hasPlaces M_X2_hasPlaces 2 0 0 FN h [aR 61] (fun r F' h' => F' = FN ∧ ∃ z, r = some (aI z) ∧ h' = h ∧ P z) :=
  CT.of (by decide +kernel) rfl (Nat.le_of_ble_eq_true rfl) k_X2_hasPlaces fun k0 _ _ hM => c_X2_hasPlaces hM h (fun z hz => ⟨rfl, z, rfl, rfl, hz⟩) hh

