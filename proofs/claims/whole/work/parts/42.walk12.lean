set_option linter.all false
theorem mi_X5_isAheadInAll : MIv yX5_isAheadInAll M_X5_isAheadInAll 2 := ⟨⟨(mem_GW 1368 (by decide +kernel) rfl), (mem_GW 132 (by decide +kernel) rfl), by decide +kernel, by decide +kernel, by decide +kernel, by decide⟩, (mem_GW 1366 (by decide +kernel) rfl), (mem_GW 1367 (by decide +kernel) rfl)⟩
set_option maxRecDepth 20000 in
set_option maxHeartbeats 4000000 in
theorem c_X5_isAheadInAll_j8 {k0 : K0} {G : Gx} {Qp : Option AV → Fx → Hp → Prop} (hM : MB (KM k0 0 0 Qp) G M_X5_isAheadInAll 5) (v1 : Int) (v2 : Int) (h : Hp)   {P : (Int × Hp) → Prop} (hq : ∀ z : Int × Hp, P z → Qp (some (aI z.1)) FN z.2) (hh : OK (X5_isAheadInAll_j8 v1 v2 h) P) : ATk (KM k0 0 0 Qp) FN 0 0 M_X5_isAheadInAll 8 [some (aR 66), some (aI v1), some (aI v2)] [] h := by
  unfold X5_isAheadInAll_j8 at hh
  refine A_blk hM.1 4 (lv1 := [some (aR 66), some (aI v1), some (aI v2)]) (s1 := [aI v2, aR 66, aR 76]) (h1 := h) rfl ?_
  refine A_callV hM rfl rfl (mem_GW 1308 (by decide +kernel) rfl) mi_X5_placeOf (As := [aI v2]) (rest := [aR 76]) (ct_X5_placeOf v2 h (OK_bind hh)) (by decide) ⟨Nat.zero_le _, Nat.zero_le _⟩ rfl rfl (Nat.le_of_ble_eq_true rfl) (by decide) rfl (by decide) rfl (fun r F' h' hq1 => ?_)
  obtain ⟨rfl, r1, rfl, e9, hh⟩ := hq1
  subst h'
  refine A_callSN (host := "QuotedBooks") hM rfl rfl (mem_NW 1291 (by decide +kernel) rfl) mi_X11_at ms_X11_at (As := [aR 76, aI r1]) (rest := []) (ct_X11_at 76 10 r1 h rfl rfl (OK_bind hh)) (by decide) ⟨Nat.zero_le _, Nat.zero_le _⟩ rfl rfl (Nat.le_of_ble_eq_true rfl) (fun r F' h' hq1 => ?_)
  obtain ⟨rfl, r2, rfl, e9, hh⟩ := hq1
  subst h'
  refine A_blk hM.1 2 (lv1 := [some (aR 66), some (aI v1), some (aI v2)]) (s1 := [aI v1, aR 66, aI r2]) (h1 := h) rfl ?_
  refine A_callV hM rfl rfl (mem_GW 1308 (by decide +kernel) rfl) mi_X5_placeOf (As := [aI v1]) (rest := [aI r2]) (ct_X5_placeOf v1 h (OK_bind hh)) (by decide) ⟨Nat.zero_le _, Nat.zero_le _⟩ rfl rfl (Nat.le_of_ble_eq_true rfl) (by decide) rfl (by decide) rfl (fun r F' h' hq1 => ?_)
  obtain ⟨rfl, r3, rfl, e9, hh⟩ := hq1
  subst h'
  refine A_blk hM.1 3 (lv1 := [some (aR 66), some (aI v1), some (aI v2)]) (s1 := [aI (and32 (ushr32 r2 r3) 1)]) (h1 := h) rfl ?_
  refine A_ifc hM.1 rfl rfl (fun hc => ?_) (fun hc => ?_)
  · replace hh := OK_t hh hc
    refine A_blk hM.1 1 (lv1 := [some (aR 66), some (aI v1), some (aI v2)]) (s1 := [aI 0]) (h1 := h) rfl ?_
    exact A_retz hM.1 rfl rfl rfl (by decide) (hq (0, h) hh)
  · replace hh := OK_f hh hc
    refine A_blk hM.1 1 (lv1 := [some (aR 66), some (aI v1), some (aI v2)]) (s1 := [aI 1]) (h1 := h) rfl ?_
    refine A_go hM.1 rfl rfl ?_
    exact A_retz hM.1 rfl rfl rfl (by decide) (hq (1, h) hh)

set_option maxRecDepth 20000 in
set_option maxHeartbeats 4000000 in
theorem c_X5_isAheadInAll {k0 : K0} {G : Gx} {Qp : Option AV → Fx → Hp → Prop} (hM : MB (KM k0 0 0 Qp) G M_X5_isAheadInAll 5) (v1 : Int) (v2 : Int) (h : Hp)   {P : (Int × Hp) → Prop} (hq : ∀ z : Int × Hp, P z → Qp (some (aI z.1)) FN z.2) (hh : OK (X5_isAheadInAll v1 v2 h) P) : ATk (KM k0 0 0 Qp) FN 0 0 M_X5_isAheadInAll 0 [some (aR 66), some (aI v1), some (aI v2)] [] h := by
  unfold X5_isAheadInAll at hh
  refine A_blk hM.1 2 (lv1 := [some (aR 66), some (aI v1), some (aI v2)]) (s1 := [aI (h 66 17)]) (h1 := h) rfl ?_
  refine A_ifc hM.1 rfl rfl (fun hc => ?_) (fun hc => ?_)
  · replace hh := OK_t hh hc
    exact c_X5_isAheadInAll_j8 hM v1 v2 h hq hh
  · replace hh := OK_f hh hc
    refine A_blk hM.1 1 (lv1 := [some (aR 66), some (aI v1), some (aI v2)]) (s1 := [aR 66]) (h1 := h) rfl ?_
    refine A_callV hM rfl rfl (mem_GW 1369 (by decide +kernel) rfl) mi_X5_compareAll (As := []) (rest := []) (ct_X5_compareAll h (OK_bind hh)) (by decide) ⟨Nat.zero_le _, Nat.zero_le _⟩ rfl rfl (Nat.le_of_ble_eq_true rfl) (by decide) rfl (by decide) rfl (fun r F' h' hq1 => ?_)
    obtain ⟨rfl, rfl, hh⟩ := hq1
    obtain ⟨r4, rfl⟩ : ∃ z, z = h' := ⟨_, rfl⟩
    refine A_blk hM.1 2 (lv1 := [some (aR 66), some (aI v1), some (aI v2)]) (s1 := [aI 1, aR 66]) (h1 := r4) rfl ?_
    refine A_putz hM.1 rfl rfl rfl (by decide) rfl rfl rfl (by decide) ?_
    exact c_X5_isAheadInAll_j8 hM v1 v2 (setH r4 66 17 1) hq hh

set_option maxRecDepth 20000 in
set_option maxHeartbeats 4000000 in
theorem ct_X5_isAheadInAll {G : Gx} (v1 : Int) (v2 : Int) (h : Hp)   {P : (Int × Hp) → Prop} (hh : OK (X5_isAheadInAll v1 v2 h) P) : CT G yX5_isAheadInAll M_X5_isAheadInAll 5 0 0 FN h [aR 66, aI v1, aI v2] (fun r F' h' => F' = FN ∧ ∃ z, r = some (aI z.1) ∧ h' = z.2 ∧ P z) :=
  CT.of (by decide +kernel) rfl (Nat.le_of_ble_eq_true rfl) k_X5_isAheadInAll fun k0 _ _ hM => c_X5_isAheadInAll hM v1 v2 h (fun z hz => ⟨rfl, z, rfl, rfl, hz⟩) hh

