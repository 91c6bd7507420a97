set_option linter.all false
theorem mi_X7_toldBooks : MIv yX7_toldBooks M_X7_toldBooks 1 := ⟨⟨(mem_GW 1392 (by decide +kernel) rfl), (mem_GW 125 (by decide +kernel) rfl), by decide +kernel, by decide +kernel, by decide +kernel, by decide⟩, (mem_GW 1390 (by decide +kernel) rfl), (mem_GW 1391 (by decide +kernel) rfl)⟩
set_option maxRecDepth 20000 in
set_option maxHeartbeats 4000000 in
theorem c_X7_toldBooks_j27 {k0 : K0} {G : Gx} {Qp : Option AV → Fx → Hp → Prop} (hM : MB (KM k0 0 0 Qp) G M_X7_toldBooks 3) (v1 : Int) (v2 : Int) (v4 : Int) (h : Hp)   {P : ((Int × Int) ⊕ (Int)) → Prop} (hin : ∀ y : Int × Int, P (.inl y) → ATk (KM k0 0 0 Qp) FN 0 0 M_X7_toldBooks 4 [some (aR 3), some (aI v1), some (aL y.1), none, some (aI y.2), none] [] h) (hout0 : ∀ y : Int, P (.inr y) → ATk (KM k0 0 0 Qp) FN 0 0 M_X7_toldBooks 29 [none, none, some (aL y), none, none, none] [] h) (hh : OK (X7_toldBooks_j27 v1 v2 v4 h) P) : ATk (KM k0 0 0 Qp) FN 0 0 M_X7_toldBooks 27 [some (aR 3), some (aI v1), some (aL v2), none, some (aI v4), none] [] h := by
  unfold X7_toldBooks_j27 at hh
  refine A_blk hM.1 1 (lv1 := [some (aR 3), some (aI v1), some (aL v2), none, some (aI (v4 + 1)), none]) (s1 := []) (h1 := h) rfl ?_
  refine A_go hM.1 rfl rfl ?_
  exact hin (v2, v4 + 1) hh

set_option maxRecDepth 20000 in
set_option maxHeartbeats 4000000 in
theorem c_X7_toldBooks_l4 {k0 : K0} {G : Gx} {Qp : Option AV → Fx → Hp → Prop} (hM : MB (KM k0 0 0 Qp) G M_X7_toldBooks 3) (v1 : Int) (h : Hp) (x : Int × Int)   {P : ((Int × Int) ⊕ (Int)) → Prop} (hin : ∀ y : Int × Int, P (.inl y) → ATk (KM k0 0 0 Qp) FN 0 0 M_X7_toldBooks 4 [some (aR 3), some (aI v1), some (aL y.1), none, some (aI y.2), none] [] h) (hout0 : ∀ y : Int, P (.inr y) → ATk (KM k0 0 0 Qp) FN 0 0 M_X7_toldBooks 29 [none, none, some (aL y), none, none, none] [] h) (hh : OK (X7_toldBooks_l4 v1 h x) P) : ATk (KM k0 0 0 Qp) FN 0 0 M_X7_toldBooks 4 [some (aR 3), some (aI v1), some (aL x.1), none, some (aI x.2), none] [] h := by
  unfold X7_toldBooks_l4 at hh
  refine A_blk hM.1 3 (lv1 := [some (aR 3), some (aI v1), some (aL x.1), none, some (aI x.2), none]) (s1 := [aI (h 3 11), aI x.2]) (h1 := h) rfl ?_
  refine A_icmp hM.1 rfl rfl (fun hc => ?_) (fun hc => ?_)
  · replace hh := OK_t hh hc
    refine A_mask [false, false, true, true, false, true] (lv1 := [none, none, some (aL x.1), none, none, none]) rfl ?_
    exact hout0 x.1 hh
  · replace hh := OK_f hh hc
    refine A_blk hM.1 2 (lv1 := [some (aR 3), some (aI v1), some (aL x.1), none, some (aI x.2), none]) (s1 := [aI x.2, aR 3]) (h1 := h) rfl ?_
    refine A_callV hM rfl rfl (mem_GW 1393 (by decide +kernel) rfl) mi_X7_bitBook (As := [aI x.2]) (rest := []) (ct_X7_bitBook x.2 h (OK_bind hh)) (by decide) ⟨Nat.zero_le _, Nat.zero_le _⟩ rfl rfl (Nat.le_of_ble_eq_true rfl) (by decide) rfl (by decide) rfl (fun r F' h' hq1 => ?_)
    obtain ⟨rfl, r1, rfl, e9, hh⟩ := hq1
    subst h'
    refine A_blk hM.1 3 (lv1 := [some (aR 3), some (aI v1), some (aL x.1), none, some (aI x.2), some (aI r1)]) (s1 := [aI x.2, aR 3]) (h1 := h) rfl ?_
    refine A_callV hM rfl rfl (mem_GW 1286 (by decide +kernel) rfl) mi_X7_bitWork (As := [aI x.2]) (rest := []) (ct_X7_bitWork x.2 h (OK_bind hh)) (by decide) ⟨Nat.zero_le _, Nat.zero_le _⟩ rfl rfl (Nat.le_of_ble_eq_true rfl) (by decide) rfl (by decide) rfl (fun r F' h' hq1 => ?_)
    obtain ⟨rfl, r2, rfl, e9, hh⟩ := hq1
    subst h'
    refine A_blk hM.1 1 (lv1 := [some (aR 3), some (aI v1), some (aL x.1), none, some (aI x.2), some (aI r1)]) (s1 := [aI v1, aI r2]) (h1 := h) rfl ?_
    refine A_icmp hM.1 rfl rfl (fun hc => ?_) (fun hc => ?_)
    · replace hh := OK_t hh hc
      refine A_mask [true, true, true, true, true, false] (lv1 := [some (aR 3), some (aI v1), some (aL x.1), none, some (aI x.2), none]) rfl ?_
      exact c_X7_toldBooks_j27 hM v1 x.1 x.2 h hin hout0 hh
    · replace hh := OK_f hh hc
      refine A_blk hM.1 1 (lv1 := [some (aR 3), some (aI v1), some (aL x.1), none, some (aI x.2), some (aI r1)]) (s1 := [aI r1]) (h1 := h) rfl ?_
      refine A_ifc hM.1 rfl rfl (fun hc => ?_) (fun hc => ?_)
      · replace hh := OK_t hh hc
        refine A_mask [true, true, true, true, true, false] (lv1 := [some (aR 3), some (aI v1), some (aL x.1), none, some (aI x.2), none]) rfl ?_
        exact c_X7_toldBooks_j27 hM v1 x.1 x.2 h hin hout0 hh
      · replace hh := OK_f hh hc
        refine A_blk hM.1 8 (lv1 := [some (aR 3), some (aI v1), some (aL (or64 x.1 (shl64 1 (r1 - 1)))), none, some (aI x.2), some (aI r1)]) (s1 := []) (h1 := h) rfl ?_
        refine A_mask [true, true, true, true, true, false] (lv1 := [some (aR 3), some (aI v1), some (aL (or64 x.1 (shl64 1 (r1 - 1)))), none, some (aI x.2), none]) rfl ?_
        exact c_X7_toldBooks_j27 hM v1 (or64 x.1 (shl64 1 (r1 - 1))) x.2 h hin hout0 hh

set_option maxRecDepth 20000 in
set_option maxHeartbeats 4000000 in
theorem c_X7_toldBooks {k0 : K0} {G : Gx} {Qp : Option AV → Fx → Hp → Prop} (hM : MB (KM k0 0 0 Qp) G M_X7_toldBooks 3) (v1 : Int) (h : Hp)   {P : Int → Prop} (hq : ∀ z : Int, P z → Qp (some (aL z)) FN h) (hh : OK (X7_toldBooks v1 h) P) : ATk (KM k0 0 0 Qp) FN 0 0 M_X7_toldBooks 0 [some (aR 3), some (aI v1), none, none, none, none] [] h := by
  unfold X7_toldBooks at hh
  refine A_blk hM.1 4 (lv1 := [some (aR 3), some (aI v1), some (aL 0), none, some (aI 0), none]) (s1 := []) (h1 := h) rfl ?_
  refine iter_ok (s := (0, 0)) (Gp := fun z => ATk (KM k0 0 0 Qp) FN 0 0 M_X7_toldBooks 4 [some (aR 3), some (aI v1), some (aL z.1), none, some (aI z.2), none] [] h) (E := fun z => ATk (KM k0 0 0 Qp) FN 0 0 M_X7_toldBooks 29 [none, none, some (aL z), none, none, none] [] h) (fun z P1 g1 g2 g3 => c_X7_toldBooks_l4 hM v1 h z g2 g3 g1) (OK_bind hh) (fun x3 hh => ?_)
  refine A_blk hM.1 1 (lv1 := [none, none, some (aL x3), none, none, none]) (s1 := [aL x3]) (h1 := h) rfl ?_
  exact A_retl hM.1 rfl rfl rfl (hq x3 hh)

set_option maxRecDepth 20000 in
set_option maxHeartbeats 4000000 in
theorem ct_X7_toldBooks {G : Gx} (v1 : Int) (h : Hp)   {P : Int → Prop} (hh : OK (X7_toldBooks v1 h) P) : CT G yX7_toldBooks M_X7_toldBooks 3 0 0 FN h [aR 3, aI v1] (fun r F' h' => F' = FN ∧ ∃ z, r = some (aL z) ∧ h' = h ∧ P z) :=
  CT.of (by decide +kernel) rfl (Nat.le_of_ble_eq_true rfl) k_X7_toldBooks fun k0 _ _ hM => c_X7_toldBooks hM v1 h (fun z hz => ⟨rfl, z, rfl, rfl, hz⟩) hh

