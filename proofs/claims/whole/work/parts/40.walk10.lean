theorem mi_X5_markNext : MIv yX5_markNext M_X5_markNext 3 := ⟨⟨(mem_GW 1376 (by decide +kernel) rfl), (mem_GW 132 (by decide +kernel) rfl), by decide +kernel, by decide +kernel, by decide +kernel, by decide⟩, (mem_GW 1375 (by decide +kernel) rfl), (mem_GW 45 (by decide +kernel) rfl)⟩
set_option maxRecDepth 20000 in
set_option maxHeartbeats 4000000 in
theorem c_X5_markNext_j31 {k0 : K0} {G : Gx} {Qp : Option AV → Fx → Hp → Prop} (hM : MB (KM k0 0 0 Qp) G M_X5_markNext 3) (v1 : Int) (v2 : Int) (v3 : Int) (v4 : Int) (h : Hp)   {P : ((Int × Hp) ⊕ (Hp)) → Prop} (hin : ∀ y : Int × Hp, P (.inl y) → ATk (KM k0 0 0 Qp) FN 0 0 M_X5_markNext 2 [some (aR 66), some (aI v1), some (aI v2), some (aI v3), some (aI y.1), none] [] y.2) (hout0 : ∀ y : Hp, P (.inr y) → ATk (KM k0 0 0 Qp) FN 0 0 M_X5_markNext 33 [none, none, none, none, none, none] [] y) (hh : OK (X5_markNext_j31 v1 v2 v3 v4 h) P) : ATk (KM k0 0 0 Qp) FN 0 0 M_X5_markNext 31 [some (aR 66), some (aI v1), some (aI v2), some (aI v3), some (aI v4), none] [] h := by
  unfold X5_markNext_j31 at hh
  refine A_blk hM.1 1 (lv1 := [some (aR 66), some (aI v1), some (aI v2), some (aI v3), some (aI (v4 + 1)), none]) (s1 := []) (h1 := h) rfl ?_
  refine A_go hM.1 rfl rfl ?_
  exact hin (v4 + 1, h) hh

set_option maxRecDepth 20000 in
set_option maxHeartbeats 4000000 in
theorem c_X5_markNext_l2 {k0 : K0} {G : Gx} {Qp : Option AV → Fx → Hp → Prop} (hM : MB (KM k0 0 0 Qp) G M_X5_markNext 3) (v1 : Int) (v2 : Int) (v3 : Int) (x : Int × Hp)   {P : ((Int × Hp) ⊕ (Hp)) → Prop} (hin : ∀ y : Int × Hp, P (.inl y) → ATk (KM k0 0 0 Qp) FN 0 0 M_X5_markNext 2 [some (aR 66), some (aI v1), some (aI v2), some (aI v3), some (aI y.1), none] [] y.2) (hout0 : ∀ y : Hp, P (.inr y) → ATk (KM k0 0 0 Qp) FN 0 0 M_X5_markNext 33 [none, none, none, none, none, none] [] y) (hh : OK (X5_markNext_l2 v1 v2 v3 x) P) : ATk (KM k0 0 0 Qp) FN 0 0 M_X5_markNext 2 [some (aR 66), some (aI v1), some (aI v2), some (aI v3), some (aI x.1), none] [] x.2 := by
  unfold X5_markNext_l2 at hh
  refine A_blk hM.1 3 (lv1 := [some (aR 66), some (aI v1), some (aI v2), some (aI v3), some (aI x.1), none]) (s1 := [aI (x.2 66 5), aI x.1]) (h1 := x.2) rfl ?_
  refine A_icmp hM.1 rfl rfl (fun hc => ?_) (fun hc => ?_)
  · replace hh := OK_t hh hc
    refine A_mask [false, false, false, false, false, true] (lv1 := [none, none, none, none, none, none]) rfl ?_
    exact hout0 x.2 hh
  · replace hh := OK_f hh hc
    refine A_blk hM.1 4 (lv1 := [some (aR 66), some (aI v1), some (aI v2), some (aI v3), some (aI x.1), none]) (s1 := [aI x.1, aI v2, aI v1, aR 66]) (h1 := x.2) rfl ?_
    refine A_callV hM rfl rfl (mem_GW 1332 (by decide +kernel) rfl) mi_X5_behind (As := [aI v1, aI v2, aI x.1]) (rest := []) (ct_X5_behind v1 v2 x.1 x.2 (OK_bind hh)) (by decide) ⟨Nat.zero_le _, Nat.zero_le _⟩ rfl rfl (Nat.le_of_ble_eq_true rfl) (by decide) rfl (by decide) rfl (fun r F' h' hq1 => ?_)
    obtain ⟨rfl, r1, rfl, e9, hh⟩ := hq1
    subst h'
    refine A_blk hM.1 1 (lv1 := [some (aR 66), some (aI v1), some (aI v2), some (aI v3), some (aI x.1), none]) (s1 := [aI v3, aI r1]) (h1 := x.2) rfl ?_
    refine A_icmp hM.1 rfl rfl (fun hc => ?_) (fun hc => ?_)
    · replace hh := OK_t hh hc
      exact c_X5_markNext_j31 hM v1 v2 v3 x.1 x.2 hin hout0 hh
    · replace hh := OK_f hh hc
      refine A_blk hM.1 12 (lv1 := [some (aR 66), some (aI v1), some (aI v2), some (aI v3), some (aI x.1), some (aI (or32 v1 (shl32 1 x.1)))]) (s1 := [aI (or32 v1 (shl32 1 x.1)), aR 75, aI (or32 v1 (shl32 1 x.1)), aR 75]) (h1 := x.2) rfl ?_
      refine A_callSN (host := "QuotedBooks") hM rfl rfl (mem_NW 1291 (by decide +kernel) rfl) mi_X11_at ms_X11_at (As := [aR 75, aI (or32 v1 (shl32 1 x.1))]) (rest := [aI (or32 v1 (shl32 1 x.1)), aR 75]) (ct_X11_at 75 1024 (or32 v1 (shl32 1 x.1)) x.2 rfl rfl (OK_bind hh)) (by decide) ⟨Nat.zero_le _, Nat.zero_le _⟩ rfl rfl (Nat.le_of_ble_eq_true rfl) (fun r F' h' hq1 => ?_)
      obtain ⟨rfl, r2, rfl, e9, hh⟩ := hq1
      subst h'
      refine A_blk hM.1 4 (lv1 := [some (aR 66), some (aI v1), some (aI v2), some (aI v3), some (aI x.1), some (aI (or32 v1 (shl32 1 x.1)))]) (s1 := [aI (or32 r2 (shl32 1 x.1)), aI (or32 v1 (shl32 1 x.1)), aR 75]) (h1 := x.2) rfl ?_
      refine A_callSN (host := "QuotedBooks") hM rfl rfl (mem_NW 1292 (by decide +kernel) rfl) mi_X11_put ms_X11_put (As := [aR 75, aI (or32 v1 (shl32 1 x.1)), aI (or32 r2 (shl32 1 x.1))]) (rest := []) (ct_X11_put 75 1024 (or32 v1 (shl32 1 x.1)) (or32 r2 (shl32 1 x.1)) x.2 rfl rfl (OK_bind hh)) (by decide) ⟨Nat.zero_le _, Nat.zero_le _⟩ rfl rfl (Nat.le_of_ble_eq_true rfl) (fun r F' h' hq1 => ?_)
      obtain ⟨rfl, rfl, hh⟩ := hq1
      obtain ⟨r3, rfl⟩ : ∃ z, z = h' := ⟨_, rfl⟩
      refine A_mask [true, true, true, true, true, false] (lv1 := [some (aR 66), some (aI v1), some (aI v2), some (aI v3), some (aI x.1), none]) rfl ?_
      exact c_X5_markNext_j31 hM v1 v2 v3 x.1 r3 hin hout0 hh

set_option maxRecDepth 20000 in
set_option maxHeartbeats 4000000 in
theorem c_X5_markNext {k0 : K0} {G : Gx} {Qp : Option AV → Fx → Hp → Prop} (hM : MB (KM k0 0 0 Qp) G M_X5_markNext 3) (v1 : Int) (v2 : Int) (v3 : Int) (h : Hp)   {P : Hp → Prop} (hq : ∀ z : Hp, P z → Qp none FN z) (hh : OK (X5_markNext v1 v2 v3 h) P) : ATk (KM k0 0 0 Qp) FN 0 0 M_X5_markNext 0 [some (aR 66), some (aI v1), some (aI v2), some (aI v3), none, none] [] h := by
  unfold X5_markNext at hh
  refine A_blk hM.1 2 (lv1 := [some (aR 66), some (aI v1), some (aI v2), some (aI v3), some (aI 0), none]) (s1 := []) (h1 := h) rfl ?_
  refine iter_ok (s := (0, h)) (Gp := fun z => ATk (KM k0 0 0 Qp) FN 0 0 M_X5_markNext 2 [some (aR 66), some (aI v1), some (aI v2), some (aI v3), some (aI z.1), none] [] z.2) (E := fun z => ATk (KM k0 0 0 Qp) FN 0 0 M_X5_markNext 33 [none, none, none, none, none, none] [] z) (fun z P1 g1 g2 g3 => c_X5_markNext_l2 hM v1 v2 v3 z g2 g3 g1) (OK_bind hh) (fun x4 hh => ?_)
  exact A_retv hM.1 rfl rfl rfl (hq x4 hh)

set_option maxRecDepth 20000 in
set_option maxHeartbeats 4000000 in
theorem ct_X5_markNext {G : Gx} (v1 : Int) (v2 : Int) (v3 : Int) (h : Hp)   {P : Hp → Prop} (hh : OK (X5_markNext v1 v2 v3 h) P) : CT G yX5_markNext M_X5_markNext 3 0 0 FN h [aR 66, aI v1, aI v2, aI v3] (fun r F' h' => F' = FN ∧ r = none ∧ P h') :=
  CT.of (by decide +kernel) rfl (Nat.le_of_ble_eq_true rfl) k_X5_markNext fun k0 _ _ hM => c_X5_markNext hM v1 v2 v3 h (fun z hz => ⟨rfl, rfl, hz⟩) hh

