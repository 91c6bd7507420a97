set_option linter.all false
theorem mi_X11_sure : MIv yX11_sure M_X11_sure 2 := ⟨⟨(mem_GW 1364 (by decide +kernel) rfl), (mem_GW 123 (by decide +kernel) rfl), by decide +kernel, by decide +kernel, by decide +kernel, by decide⟩, (mem_GW 1362 (by decide +kernel) rfl), (mem_GW 1363 (by decide +kernel) rfl)⟩
set_option maxRecDepth 20000 in
set_option maxHeartbeats 4000000 in
theorem c_X11_sure {k0 : K0} {G : Gx} {Qp : Option AV → Fx → Hp → Prop} (hM : MB (KM k0 0 0 Qp) G M_X11_sure 8) (v1 : Int) (v2 : Int) (h : Hp)   {P : (Int × Hp) → Prop} (hq : ∀ z : Int × Hp, P z → Qp (some (aI z.1)) FN z.2) (hh : OK (X11_sure v1 v2 h) P) : ATk (KM k0 0 0 Qp) FN 0 0 M_X11_sure 0 [some (aR 0), some (aI v1), some (aI v2)] [] h := by
  unfold X11_sure at hh
  refine A_blk hM.1 3 (lv1 := [some (aR 0), some (aI v1), some (aI v2)]) (s1 := [aI v1, aR 3]) (h1 := h) rfl ?_
  refine A_callV hM rfl rfl (mem_GW 986 (by decide +kernel) rfl) mi_X7_isBit (As := [aI v1]) (rest := []) (ct_X7_isBit v1 h (OK_bind hh)) (by decide) ⟨Nat.zero_le _, Nat.zero_le _⟩ rfl rfl (Nat.le_of_ble_eq_true rfl) (by decide) rfl (by decide) rfl (fun r F' h' hq1 => ?_)
  obtain ⟨rfl, r1, rfl, e9, hh⟩ := hq1
  subst h'
  refine A_ifc hM.1 rfl rfl (fun hc => ?_) (fun hc => ?_)
  · replace hh := OK_t hh hc
    refine A_blk hM.1 1 (lv1 := [some (aR 0), some (aI v1), some (aI v2)]) (s1 := [aI (-1)]) (h1 := h) rfl ?_
    exact A_reti hM.1 rfl rfl rfl (hq ((-1), h) hh)
  · replace hh := OK_f hh hc
    refine A_blk hM.1 3 (lv1 := [some (aR 0), some (aI v1), some (aI v2)]) (s1 := [aI v2, aR 3]) (h1 := h) rfl ?_
    refine A_callV hM rfl rfl (mem_GW 986 (by decide +kernel) rfl) mi_X7_isBit (As := [aI v2]) (rest := []) (ct_X7_isBit v2 h (OK_bind hh)) (by decide) ⟨Nat.zero_le _, Nat.zero_le _⟩ rfl rfl (Nat.le_of_ble_eq_true rfl) (by decide) rfl (by decide) rfl (fun r F' h' hq1 => ?_)
    obtain ⟨rfl, r2, rfl, e9, hh⟩ := hq1
    subst h'
    refine A_ifc hM.1 rfl rfl (fun hc => ?_) (fun hc => ?_)
    · replace hh := OK_t hh hc
      refine A_blk hM.1 1 (lv1 := [some (aR 0), some (aI v1), some (aI v2)]) (s1 := [aI (-1)]) (h1 := h) rfl ?_
      exact A_reti hM.1 rfl rfl rfl (hq ((-1), h) hh)
    · replace hh := OK_f hh hc
      refine A_blk hM.1 2 (lv1 := [some (aR 0), some (aI v1), some (aI v2)]) (s1 := [aI v2, aI v1]) (h1 := h) rfl ?_
      refine A_icmp hM.1 rfl rfl (fun hc => ?_) (fun hc => ?_)
      · replace hh := OK_t hh hc
        refine A_blk hM.1 1 (lv1 := [some (aR 0), some (aI v1), some (aI v2)]) (s1 := [aI (-1)]) (h1 := h) rfl ?_
        exact A_reti hM.1 rfl rfl rfl (hq ((-1), h) hh)
      · replace hh := OK_f hh hc
        refine A_blk hM.1 4 (lv1 := [some (aR 0), some (aI v1), some (aI v2)]) (s1 := [aI v2, aI v1, aR 3]) (h1 := h) rfl ?_
        refine A_callV hM rfl rfl (mem_GW 1282 (by decide +kernel) rfl) mi_X7_ofOneWork (As := [aI v1, aI v2]) (rest := []) (ct_X7_ofOneWork v1 v2 h (OK_bind hh)) (by decide) ⟨Nat.zero_le _, Nat.zero_le _⟩ rfl rfl (Nat.le_of_ble_eq_true rfl) (by decide) rfl (by decide) rfl (fun r F' h' hq1 => ?_)
        obtain ⟨rfl, r3, rfl, e9, hh⟩ := hq1
        subst h'
        refine A_ifc hM.1 rfl rfl (fun hc => ?_) (fun hc => ?_)
        · replace hh := OK_t hh hc
          refine A_blk hM.1 5 (lv1 := [some (aR 0), some (aI v1), some (aI v2)]) (s1 := [aI v1, aR 3, aR 66]) (h1 := h) rfl ?_
          refine A_callV hM rfl rfl (mem_GW 999 (by decide +kernel) rfl) mi_X7_bitWork (As := [aI v1]) (rest := [aR 66]) (ct_X7_bitWork v1 h (OK_bind hh)) (by decide) ⟨Nat.zero_le _, Nat.zero_le _⟩ rfl rfl (Nat.le_of_ble_eq_true rfl) (by decide) rfl (by decide) rfl (fun r F' h' hq1 => ?_)
          obtain ⟨rfl, r4, rfl, e9, hh⟩ := hq1
          subst h'
          refine A_callV hM rfl rfl (mem_GW 1298 (by decide +kernel) rfl) mi_X5_solve (As := [aI r4]) (rest := []) (ct_X5_solve r4 h (OK_bind hh)) (by decide) ⟨Nat.zero_le _, Nat.zero_le _⟩ rfl rfl (Nat.le_of_ble_eq_true rfl) (by decide) rfl (by decide) rfl (fun r F' h' hq1 => ?_)
          obtain ⟨rfl, r5, rfl, e9, hh⟩ := hq1
          subst h'
          refine A_ifc hM.1 rfl rfl (fun hc => ?_) (fun hc => ?_)
          · replace hh := OK_t hh hc
            refine A_blk hM.1 4 (lv1 := [some (aR 0), some (aI v1), some (aI v2)]) (s1 := [aI v2, aI v1, aR 66]) (h1 := r5.2) rfl ?_
            refine A_callV hM rfl rfl (mem_GW 1365 (by decide +kernel) rfl) mi_X5_isAheadInAll (As := [aI v1, aI v2]) (rest := []) (ct_X5_isAheadInAll v1 v2 r5.2 (OK_bind hh)) (by decide) ⟨Nat.zero_le _, Nat.zero_le _⟩ rfl rfl (Nat.le_of_ble_eq_true rfl) (by decide) rfl (by decide) rfl (fun r F' h' hq1 => ?_)
            obtain ⟨rfl, r6, rfl, e9, hh⟩ := hq1
            subst h'
            refine A_ifc hM.1 rfl rfl (fun hc => ?_) (fun hc => ?_)
            · replace hh := OK_t hh hc
              refine A_blk hM.1 1 (lv1 := [some (aR 0), some (aI v1), some (aI v2)]) (s1 := [aI 0]) (h1 := r6.2) rfl ?_
              exact A_reti hM.1 rfl rfl rfl (hq (0, r6.2) hh)
            · replace hh := OK_f hh hc
              refine A_blk hM.1 1 (lv1 := [some (aR 0), some (aI v1), some (aI v2)]) (s1 := [aI 1]) (h1 := r6.2) rfl ?_
              refine A_go hM.1 rfl rfl ?_
              exact A_reti hM.1 rfl rfl rfl (hq (1, r6.2) hh)
          · replace hh := OK_f hh hc
            refine A_blk hM.1 1 (lv1 := [some (aR 0), some (aI v1), some (aI v2)]) (s1 := [aI (-2)]) (h1 := r5.2) rfl ?_
            exact A_reti hM.1 rfl rfl rfl (hq ((-2), r5.2) hh)
        · replace hh := OK_f hh hc
          refine A_blk hM.1 1 (lv1 := [some (aR 0), some (aI v1), some (aI v2)]) (s1 := [aI (-1)]) (h1 := h) rfl ?_
          exact A_reti hM.1 rfl rfl rfl (hq ((-1), h) hh)

set_option maxRecDepth 20000 in
set_option maxHeartbeats 4000000 in
theorem ct_X11_sure {G : Gx} (v1 : Int) (v2 : Int) (h : Hp)   {P : (Int × Hp) → Prop} (hh : OK (X11_sure v1 v2 h) P) : CT G yX11_sure M_X11_sure 8 0 0 FN h [aR 0, aI v1, aI v2] (fun r F' h' => F' = FN ∧ ∃ z, r = some (aI z.1) ∧ h' = z.2 ∧ P z) :=
  CT.of (by decide +kernel) rfl (Nat.le_of_ble_eq_true rfl) k_X11_sure fun k0 _ _ hM => c_X11_sure hM v1 v2 h (fun z hz => ⟨rfl, z, rfl, rfl, hz⟩) hh

