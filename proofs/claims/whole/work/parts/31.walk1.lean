set_option linter.all false
theorem mi_X11_bit : MIv yX11_bit M_X11_bit 5 := ⟨⟨(mem_GW 664 (by decide +kernel) rfl), (mem_GW 123 (by decide +kernel) rfl), by decide +kernel, by decide +kernel, by decide +kernel, by decide⟩, (mem_GW 662 (by decide +kernel) rfl), (mem_GW 663 (by decide +kernel) rfl)⟩
set_option maxRecDepth 20000 in
set_option maxHeartbeats 4000000 in
theorem c_X11_bit_j31 {k0 : K0} {G : Gx} {Qp : Option AV → Fx → Hp → Prop} (hM : MB (KM k0 0 0 Qp) G M_X11_bit 4) (v1 : Int) (v2 : Int) (v3 : Int) (v4 : Int) (v5 : Int) (s0 : Int) (h : Hp)   {P : (Int × Hp) → Prop} (hq : ∀ z : Int × Hp, P z → Qp (some (aI z.1)) FN z.2) (hh : OK (X11_bit_j31 v1 v2 v3 v4 v5 s0 h) P) : ATk (KM k0 0 0 Qp) FN 0 0 M_X11_bit 31 [some (aR 0), some (aI v1), some (aI v2), some (aI v3), some (aI v4), some (aI v5), none, none] [aI s0] h := by
  unfold X11_bit_j31 at hh
  refine A_blk hM.1 2 (lv1 := [some (aR 0), some (aI v1), some (aI v2), some (aI v3), some (aI v4), some (aI v5), some (aI s0), none]) (s1 := [aI s0]) (h1 := h) rfl ?_
  refine A_ifc hM.1 rfl rfl (fun hc => ?_) (fun hc => ?_)
  · replace hh := OK_t hh hc
    refine A_blk hM.1 1 (lv1 := [some (aR 0), some (aI v1), some (aI v2), some (aI v3), some (aI v4), some (aI v5), some (aI s0), none]) (s1 := [aI (-1)]) (h1 := h) rfl ?_
    exact A_reti hM.1 rfl rfl rfl (hq ((-1), h) hh)
  · replace hh := OK_f hh hc
    refine A_blk hM.1 2 (lv1 := [some (aR 0), some (aI v1), some (aI v2), some (aI v3), some (aI v4), some (aI v5), some (aI s0), none]) (s1 := [aR 3]) (h1 := h) rfl ?_
    refine A_callV hM rfl rfl (mem_GW 669 (by decide +kernel) rfl) mi_X7_bits (As := []) (rest := []) (ct_X7_bits h (OK_bind hh)) (by decide) ⟨Nat.zero_le _, Nat.zero_le _⟩ rfl rfl (Nat.le_of_ble_eq_true rfl) (by decide) rfl (by decide) rfl (fun r F' h' hq1 => ?_)
    obtain ⟨rfl, r2, rfl, e9, hh⟩ := hq1
    subst h'
    refine A_blk hM.1 1 (lv1 := [some (aR 0), some (aI v1), some (aI v2), some (aI v3), some (aI v4), some (aI v5), some (aI s0), none]) (s1 := [aI 40, aI r2]) (h1 := h) rfl ?_
    refine A_icmp hM.1 rfl rfl (fun hc => ?_) (fun hc => ?_)
    · replace hh := OK_t hh hc
      refine A_blk hM.1 1 (lv1 := [some (aR 0), some (aI v1), some (aI v2), some (aI v3), some (aI v4), some (aI v5), some (aI s0), none]) (s1 := [aI (-1)]) (h1 := h) rfl ?_
      exact A_reti hM.1 rfl rfl rfl (hq ((-1), h) hh)
    · replace hh := OK_f hh hc
      refine A_blk hM.1 4 (lv1 := [some (aR 0), some (aI v1), some (aI v2), some (aI v3), some (aI v4), some (aI v5), some (aI s0), none]) (s1 := [aI 1, aI v5, aR 1]) (h1 := h) rfl ?_
      refine A_callV hM rfl rfl (mem_GW 644 (by decide +kernel) rfl) mi_X9_holds (As := [aI v5, aI 1]) (rest := []) (ct_X9_holds v5 1 h (OK_bind hh)) (by decide) ⟨Nat.zero_le _, Nat.zero_le _⟩ rfl rfl (Nat.le_of_ble_eq_true rfl) (by decide) rfl (by decide) rfl (fun r F' h' hq1 => ?_)
      obtain ⟨rfl, r3, rfl, e9, hh⟩ := hq1
      subst h'
      refine A_ifc hM.1 rfl rfl (fun hc => ?_) (fun hc => ?_)
      · replace hh := OK_t hh hc
        refine A_blk hM.1 2 (lv1 := [some (aR 0), some (aI v1), some (aI v2), some (aI v3), some (aI v4), some (aI v5), some (aI s0), none]) (s1 := [aI v5, aR 0]) (h1 := h) rfl ?_
        refine A_callV hM rfl rfl (mem_GW 673 (by decide +kernel) rfl) mi_X11_takeWords (As := [aI v5]) (rest := []) (ct_X11_takeWords v5 h (OK_bind hh)) (by decide) ⟨Nat.zero_le _, Nat.zero_le _⟩ rfl rfl (Nat.le_of_ble_eq_true rfl) (by decide) rfl (by decide) rfl (fun r F' h' hq1 => ?_)
        obtain ⟨rfl, r4, rfl, e9, hh⟩ := hq1
        subst h'
        refine A_blk hM.1 3 (lv1 := [some (aR 0), some (aI v1), some (aI v2), some (aI v3), some (aI v4), some (aI v5), some (aI s0), some (aI r4.1)]) (s1 := [aR 1]) (h1 := r4.2) rfl ?_
        refine A_callV hM rfl rfl (mem_GW 657 (by decide +kernel) rfl) mi_X9_clear (As := []) (rest := []) (ct_X9_clear r4.2 (OK_bind hh)) (by decide) ⟨Nat.zero_le _, Nat.zero_le _⟩ rfl rfl (Nat.le_of_ble_eq_true rfl) (by decide) rfl (by decide) rfl (fun r F' h' hq1 => ?_)
        obtain ⟨rfl, rfl, hh⟩ := hq1
        obtain ⟨r5, rfl⟩ : ∃ z, z = h' := ⟨_, rfl⟩
        refine A_blk hM.1 1 (lv1 := [some (aR 0), some (aI v1), some (aI v2), some (aI v3), some (aI v4), some (aI v5), some (aI s0), some (aI r4.1)]) (s1 := [aI r4.1]) (h1 := r5) rfl ?_
        refine A_ifc hM.1 rfl rfl (fun hc => ?_) (fun hc => ?_)
        · replace hh := OK_t hh hc
          refine A_blk hM.1 1 (lv1 := [some (aR 0), some (aI v1), some (aI v2), some (aI v3), some (aI v4), some (aI v5), some (aI s0), some (aI r4.1)]) (s1 := [aI (-2)]) (h1 := r5) rfl ?_
          exact A_reti hM.1 rfl rfl rfl (hq ((-2), r5) hh)
        · replace hh := OK_f hh hc
          refine A_blk hM.1 5 (lv1 := [some (aR 0), some (aI v1), some (aI v2), some (aI v3), some (aI v4), some (aI v5), some (aI s0), some (aI r4.1)]) (s1 := [aI v4, aI v3, aI v2, aI v1, aR 0]) (h1 := r5) rfl ?_
          refine A_callV hM rfl rfl (mem_GW 678 (by decide +kernel) rfl) mi_X11_keepBit (As := [aI v1, aI v2, aI v3, aI v4]) (rest := []) (ct_X11_keepBit v1 v2 v3 v4 r5 (OK_bind hh)) (by decide) ⟨Nat.zero_le _, Nat.zero_le _⟩ rfl rfl (Nat.le_of_ble_eq_true rfl) (by decide) rfl (by decide) rfl (fun r F' h' hq1 => ?_)
          obtain ⟨rfl, r6, rfl, e9, hh⟩ := hq1
          subst h'
          refine A_go hM.1 rfl rfl ?_
          exact A_reti hM.1 rfl rfl rfl (hq (r6.1, r6.2) hh)
      · replace hh := OK_f hh hc
        refine A_blk hM.1 1 (lv1 := [some (aR 0), some (aI v1), some (aI v2), some (aI v3), some (aI v4), some (aI v5), some (aI s0), none]) (s1 := [aI (-1)]) (h1 := h) rfl ?_
        exact A_reti hM.1 rfl rfl rfl (hq ((-1), h) hh)

set_option maxRecDepth 20000 in
set_option maxHeartbeats 4000000 in
theorem c_X11_bit_j30 {k0 : K0} {G : Gx} {Qp : Option AV → Fx → Hp → Prop} (hM : MB (KM k0 0 0 Qp) G M_X11_bit 4) (v1 : Int) (v2 : Int) (v3 : Int) (v4 : Int) (v5 : Int) (h : Hp)   {P : (Int × Hp) → Prop} (hq : ∀ z : Int × Hp, P z → Qp (some (aI z.1)) FN z.2) (hh : OK (X11_bit_j30 v1 v2 v3 v4 v5 h) P) : ATk (KM k0 0 0 Qp) FN 0 0 M_X11_bit 30 [some (aR 0), some (aI v1), some (aI v2), some (aI v3), some (aI v4), some (aI v5), none, none] [] h := by
  unfold X11_bit_j30 at hh
  refine A_blk hM.1 1 (lv1 := [some (aR 0), some (aI v1), some (aI v2), some (aI v3), some (aI v4), some (aI v5), none, none]) (s1 := [aI 0]) (h1 := h) rfl ?_
  exact c_X11_bit_j31 hM v1 v2 v3 v4 v5 0 h hq hh

set_option maxRecDepth 20000 in
set_option maxHeartbeats 4000000 in
theorem c_X11_bit_j13 {k0 : K0} {G : Gx} {Qp : Option AV → Fx → Hp → Prop} (hM : MB (KM k0 0 0 Qp) G M_X11_bit 4) (v1 : Int) (v2 : Int) (v3 : Int) (v4 : Int) (v5 : Int) (h : Hp)   {P : (Int × Hp) → Prop} (hq : ∀ z : Int × Hp, P z → Qp (some (aI z.1)) FN z.2) (hh : OK (X11_bit_j13 v1 v2 v3 v4 v5 h) P) : ATk (KM k0 0 0 Qp) FN 0 0 M_X11_bit 13 [some (aR 0), some (aI v1), some (aI v2), some (aI v3), some (aI v4), some (aI v5), none, none] [] h := by
  unfold X11_bit_j13 at hh
  refine A_blk hM.1 3 (lv1 := [some (aR 0), some (aI v1), some (aI v2), some (aI v3), some (aI v4), some (aI v5), none, none]) (s1 := [aI 40, aI 0, aI v3]) (h1 := h) rfl ?_
  refine A_callS hM rfl rfl (mem_GW 576 (by decide +kernel) rfl) mi_X11_within ms_X11_within (As := [aI v3, aI 0, aI 40]) (rest := []) (ct_X11_within v3 0 40 h (OK_bind hh)) (by decide) ⟨Nat.zero_le _, Nat.zero_le _⟩ rfl rfl (Nat.le_of_ble_eq_true rfl) (fun r F' h' hq1 => ?_)
  obtain ⟨rfl, r7, rfl, e9, hh⟩ := hq1
  subst h'
  refine A_ifc hM.1 rfl rfl (fun hc => ?_) (fun hc => ?_)
  · replace hh := OK_t hh hc
    exact c_X11_bit_j30 hM v1 v2 v3 v4 v5 h hq hh
  · replace hh := OK_f hh hc
    refine A_blk hM.1 3 (lv1 := [some (aR 0), some (aI v1), some (aI v2), some (aI v3), some (aI v4), some (aI v5), none, none]) (s1 := [aI 9, aI 0, aI v4]) (h1 := h) rfl ?_
    refine A_callS hM rfl rfl (mem_GW 576 (by decide +kernel) rfl) mi_X11_within ms_X11_within (As := [aI v4, aI 0, aI 9]) (rest := []) (ct_X11_within v4 0 9 h (OK_bind hh)) (by decide) ⟨Nat.zero_le _, Nat.zero_le _⟩ rfl rfl (Nat.le_of_ble_eq_true rfl) (fun r F' h' hq1 => ?_)
    obtain ⟨rfl, r8, rfl, e9, hh⟩ := hq1
    subst h'
    refine A_ifc hM.1 rfl rfl (fun hc => ?_) (fun hc => ?_)
    · replace hh := OK_t hh hc
      exact c_X11_bit_j30 hM v1 v2 v3 v4 v5 h hq hh
    · replace hh := OK_f hh hc
      refine A_blk hM.1 3 (lv1 := [some (aR 0), some (aI v1), some (aI v2), some (aI v3), some (aI v4), some (aI v5), none, none]) (s1 := [aI 8, aI 1, aI v5]) (h1 := h) rfl ?_
      refine A_callS hM rfl rfl (mem_GW 576 (by decide +kernel) rfl) mi_X11_within ms_X11_within (As := [aI v5, aI 1, aI 8]) (rest := []) (ct_X11_within v5 1 8 h (OK_bind hh)) (by decide) ⟨Nat.zero_le _, Nat.zero_le _⟩ rfl rfl (Nat.le_of_ble_eq_true rfl) (fun r F' h' hq1 => ?_)
      obtain ⟨rfl, r9, rfl, e9, hh⟩ := hq1
      subst h'
      refine A_ifc hM.1 rfl rfl (fun hc => ?_) (fun hc => ?_)
      · replace hh := OK_t hh hc
        exact c_X11_bit_j30 hM v1 v2 v3 v4 v5 h hq hh
      · replace hh := OK_f hh hc
        refine A_blk hM.1 1 (lv1 := [some (aR 0), some (aI v1), some (aI v2), some (aI v3), some (aI v4), some (aI v5), none, none]) (s1 := [aI 1]) (h1 := h) rfl ?_
        refine A_go hM.1 rfl rfl ?_
        exact c_X11_bit_j31 hM v1 v2 v3 v4 v5 1 h hq hh

set_option maxRecDepth 20000 in
set_option maxHeartbeats 4000000 in
theorem c_X11_bit {k0 : K0} {G : Gx} {Qp : Option AV → Fx → Hp → Prop} (hM : MB (KM k0 0 0 Qp) G M_X11_bit 4) (v1 : Int) (v2 : Int) (v3 : Int) (v4 : Int) (v5 : Int) (h : Hp)   {P : (Int × Hp) → Prop} (hq : ∀ z : Int × Hp, P z → Qp (some (aI z.1)) FN z.2) (hh : OK (X11_bit v1 v2 v3 v4 v5 h) P) : ATk (KM k0 0 0 Qp) FN 0 0 M_X11_bit 0 [some (aR 0), some (aI v1), some (aI v2), some (aI v3), some (aI v4), some (aI v5), none, none] [] h := by
  unfold X11_bit at hh
  refine A_blk hM.1 3 (lv1 := [some (aR 0), some (aI v1), some (aI v2), some (aI v3), some (aI v4), some (aI v5), none, none]) (s1 := [aI v1, aR 3]) (h1 := h) rfl ?_
  refine A_callV hM rfl rfl (mem_GW 665 (by decide +kernel) rfl) mi_X7_isWriter (As := [aI v1]) (rest := []) (ct_X7_isWriter v1 h (OK_bind hh)) (by decide) ⟨Nat.zero_le _, Nat.zero_le _⟩ rfl rfl (Nat.le_of_ble_eq_true rfl) (by decide) rfl (by decide) rfl (fun r F' h' hq1 => ?_)
  obtain ⟨rfl, r1, rfl, e9, hh⟩ := hq1
  subst h'
  refine A_ifc hM.1 rfl rfl (fun hc => ?_) (fun hc => ?_)
  · replace hh := OK_t hh hc
    exact c_X11_bit_j30 hM v1 v2 v3 v4 v5 h hq hh
  · replace hh := OK_f hh hc
    refine A_blk hM.1 2 (lv1 := [some (aR 0), some (aI v1), some (aI v2), some (aI v3), some (aI v4), some (aI v5), none, none]) (s1 := [aI (-1), aI v2]) (h1 := h) rfl ?_
    refine A_icmp hM.1 rfl rfl (fun hc => ?_) (fun hc => ?_)
    · replace hh := OK_t hh hc
      exact c_X11_bit_j13 hM v1 v2 v3 v4 v5 h hq hh
    · replace hh := OK_f hh hc
      refine A_blk hM.1 3 (lv1 := [some (aR 0), some (aI v1), some (aI v2), some (aI v3), some (aI v4), some (aI v5), none, none]) (s1 := [aI v2, aR 3]) (h1 := h) rfl ?_
      refine A_callV hM rfl rfl (mem_GW 632 (by decide +kernel) rfl) mi_X7_isWork (As := [aI v2]) (rest := []) (ct_X7_isWork v2 h (OK_bind hh)) (by decide) ⟨Nat.zero_le _, Nat.zero_le _⟩ rfl rfl (Nat.le_of_ble_eq_true rfl) (by decide) rfl (by decide) rfl (fun r F' h' hq1 => ?_)
      obtain ⟨rfl, r10, rfl, e9, hh⟩ := hq1
      subst h'
      refine A_ifc hM.1 rfl rfl (fun hc => ?_) (fun hc => ?_)
      · replace hh := OK_t hh hc
        exact c_X11_bit_j30 hM v1 v2 v3 v4 v5 h hq hh
      · replace hh := OK_f hh hc
        exact c_X11_bit_j13 hM v1 v2 v3 v4 v5 h hq hh

set_option maxRecDepth 20000 in
set_option maxHeartbeats 4000000 in
theorem ct_X11_bit {G : Gx} (v1 : Int) (v2 : Int) (v3 : Int) (v4 : Int) (v5 : Int) (h : Hp)   {P : (Int × Hp) → Prop} (hh : OK (X11_bit v1 v2 v3 v4 v5 h) P) : CT G yX11_bit M_X11_bit 4 0 0 FN h [aR 0, aI v1, aI v2, aI v3, aI v4, aI v5] (fun r F' h' => F' = FN ∧ ∃ z, r = some (aI z.1) ∧ h' = z.2 ∧ P z) :=
  CT.of (by decide +kernel) rfl (Nat.le_of_ble_eq_true rfl) k_X11_bit fun k0 _ _ hM => c_X11_bit hM v1 v2 v3 v4 v5 h (fun z hz => ⟨rfl, z, rfl, rfl, hz⟩) hh

theorem mi_X11_wayOf : MIv yX11_wayOf M_X11_wayOf 1 := ⟨⟨(mem_GW 706 (by decide +kernel) rfl), (mem_GW 123 (by decide +kernel) rfl), by decide +kernel, by decide +kernel, by decide +kernel, by decide⟩, (mem_GW 705 (by decide +kernel) rfl), (mem_GW 2 (by decide +kernel) rfl)⟩
set_option maxRecDepth 20000 in
set_option maxHeartbeats 4000000 in
theorem c_X11_wayOf_j15 {k0 : K0} {G : Gx} {Qp : Option AV → Fx → Hp → Prop} (hM : MB (KM k0 0 0 Qp) G M_X11_wayOf 2) (h : Hp)   {P : Option Nat → Prop} (hq : ∀ z : Option Nat, P z → Qp (some (aO z)) FN h) (hh : OK (X11_wayOf_j15 h) P) : ATk (KM k0 0 0 Qp) FN 0 0 M_X11_wayOf 15 [none, none] [] h := by
  unfold X11_wayOf_j15 at hh
  refine A_blk hM.1 1 (lv1 := [none, none]) (s1 := [aN]) (h1 := h) rfl ?_
  exact A_reta hM.1 rfl rfl rfl (hq none hh)

set_option maxRecDepth 20000 in
set_option maxHeartbeats 4000000 in
theorem c_X11_wayOf {k0 : K0} {G : Gx} {Qp : Option AV → Fx → Hp → Prop} (hM : MB (KM k0 0 0 Qp) G M_X11_wayOf 2) (v1 : Int) (h : Hp)   {P : (Option Nat) → Prop} (hq : ∀ z : Option Nat, P z → Qp (some (aO z)) FN h) (hh : OK (X11_wayOf v1 h) P) : ATk (KM k0 0 0 Qp) FN 0 0 M_X11_wayOf 0 [some (aR 0), some (aI v1)] [] h := by
  unfold X11_wayOf at hh
  refine A_blk hM.1 3 (lv1 := [some (aR 0), some (aI v1)]) (s1 := [aI v1, aR 3]) (h1 := h) rfl ?_
  refine A_callV hM rfl rfl (mem_GW 665 (by decide +kernel) rfl) mi_X7_isWriter (As := [aI v1]) (rest := []) (ct_X7_isWriter v1 h (OK_bind hh)) (by decide) ⟨Nat.zero_le _, Nat.zero_le _⟩ rfl rfl (Nat.le_of_ble_eq_true rfl) (by decide) rfl (by decide) rfl (fun r F' h' hq1 => ?_)
  obtain ⟨rfl, r1, rfl, e9, hh⟩ := hq1
  subst h'
  refine A_ifc hM.1 rfl rfl (fun hc => ?_) (fun hc => ?_)
  · replace hh := OK_t hh hc
    refine A_mask [false, false] (lv1 := [none, none]) rfl ?_
    exact c_X11_wayOf_j15 hM h hq hh
  · replace hh := OK_f hh hc
    refine A_blk hM.1 3 (lv1 := [some (aR 0), some (aI v1)]) (s1 := [aR 27, aI v1]) (h1 := h) rfl ?_
    refine A_alen hM.1 rfl (Or.inr (Or.inr (Or.inr rfl))) rfl (by decide) rfl ?_
    refine A_icmp hM.1 rfl rfl (fun hc => ?_) (fun hc => ?_)
    · replace hh := OK_t hh hc
      refine A_mask [false, false] (lv1 := [none, none]) rfl ?_
      exact c_X11_wayOf_j15 hM h hq hh
    · replace hh := OK_f hh hc
      refine A_blk hM.1 3 (lv1 := [some (aR 0), some (aI v1)]) (s1 := [aI v1, aR 27]) (h1 := h) rfl ?_
      obtain ⟨g2, hh⟩ := OK_g hh
      refine A_aald hM.1 rfl rfl rfl (by decide) rfl g2 (q := some (86 + 8 * (w32 v1).toNat)) (wt_get g2) (wt_lt g2) ?_
      refine A_go hM.1 rfl rfl ?_
      exact A_reta hM.1 rfl rfl rfl (hq (some (86 + 8 * (w32 v1).toNat)) hh)

set_option maxRecDepth 20000 in
set_option maxHeartbeats 4000000 in
theorem ct_X11_wayOf {G : Gx} (v1 : Int) (h : Hp)   {P : (Option Nat) → Prop} (hh : OK (X11_wayOf v1 h) P) : CT G yX11_wayOf M_X11_wayOf 2 0 0 FN h [aR 0, aI v1] (fun r F' h' => F' = FN ∧ ∃ z, r = some (aO z) ∧ h' = h ∧ P z) :=
  CT.of (by decide +kernel) rfl (Nat.le_of_ble_eq_true rfl) k_X11_wayOf fun k0 _ _ hM => c_X11_wayOf hM v1 h (fun z hz => ⟨rfl, z, rfl, rfl, hz⟩) hh

theorem mi_X10_clear : MIv yX10_clear M_X10_clear 0 := ⟨⟨(mem_GW 718 (by decide +kernel) rfl), (mem_GW 127 (by decide +kernel) rfl), by decide +kernel, by decide +kernel, by decide +kernel, by decide⟩, (mem_GW 716 (by decide +kernel) rfl), (mem_GW 717 (by decide +kernel) rfl)⟩
set_option maxRecDepth 20000 in
set_option maxHeartbeats 4000000 in
theorem c_X10_clear {k0 : K0} {G : Gx} {Qp : Option AV → Fx → Hp → Prop} (hM : MB (KM k0 0 0 Qp) G M_X10_clear 1) (t : Nat) (h : Hp)  (ht : t ∈ txL) {P : Hp → Prop} (hq : ∀ z : Hp, P z → Qp none FN z) (hh : OK (X10_clear t h) P) : ATk (KM k0 0 0 Qp) FN 0 0 M_X10_clear 0 [some (aR t)] [] h := by
  unfold X10_clear at hh
  refine A_blk hM.1 2 (lv1 := [some (aR t)]) (s1 := [aI 0, aR t]) (h1 := h) rfl ?_
  refine A_pi hM.1 rfl rfl rfl (tx_k0 ht) (tx_l0 ht) rfl rfl ?_
  refine A_blk hM.1 2 (lv1 := [some (aR t)]) (s1 := [aI 0, aR t]) (h1 := setH h t 0 0) rfl ?_
  refine A_pi hM.1 rfl rfl rfl (tx_k0 ht) (tx_l0 ht) rfl rfl ?_
  exact A_retv hM.1 rfl rfl rfl (hq (setH (setH h t 0 0) t 1 0) hh)

set_option maxRecDepth 20000 in
set_option maxHeartbeats 4000000 in
theorem ct_X10_clear {G : Gx} (t : Nat) (h : Hp)  (ht : t ∈ txL) {P : Hp → Prop} (hh : OK (X10_clear t h) P) : CT G yX10_clear M_X10_clear 1 0 0 FN h [aR t] (fun r F' h' => F' = FN ∧ r = none ∧ P h') :=
  CT.of (by decide +kernel) rfl (Nat.le_of_ble_eq_true rfl) k_X10_clear fun k0 _ _ hM => c_X10_clear hM t h ht (fun z hz => ⟨rfl, rfl, hz⟩) hh

theorem mi_X6_next : MIv yX6_next M_X6_next 0 := ⟨⟨(mem_GW 730 (by decide +kernel) rfl), (mem_GW 126 (by decide +kernel) rfl), by decide +kernel, by decide +kernel, by decide +kernel, by decide⟩, (mem_GW 729 (by decide +kernel) rfl), (mem_GW 6 (by decide +kernel) rfl)⟩
set_option maxRecDepth 20000 in
set_option maxHeartbeats 4000000 in
theorem c_X6_next {k0 : K0} {G : Gx} {Qp : Option AV → Fx → Hp → Prop} (hM : MB (KM k0 0 0 Qp) G M_X6_next 2) (h : Hp)   {P : Int → Prop} (hq : ∀ z : Int, P z → Qp (some (aI z)) FN h) (hh : OK (X6_next h) P) : ATk (KM k0 0 0 Qp) FN 0 0 M_X6_next 0 [some (aR 18)] [] h := by
  unfold X6_next at hh
  refine A_blk hM.1 4 (lv1 := [some (aR 18)]) (s1 := [aI (h 18 2), aI (h 18 3)]) (h1 := h) rfl ?_
  refine A_icmp hM.1 rfl rfl (fun hc => ?_) (fun hc => ?_)
  · replace hh := OK_t hh hc
    refine A_blk hM.1 1 (lv1 := [some (aR 18)]) (s1 := [aI (-1)]) (h1 := h) rfl ?_
    exact A_reti hM.1 rfl rfl rfl (hq (-1) hh)
  · replace hh := OK_f hh hc
    refine A_blk hM.1 4 (lv1 := [some (aR 18)]) (s1 := [aI (h 18 3), aR 1]) (h1 := h) rfl ?_
    refine A_callV hM rfl rfl (mem_GW 731 (by decide +kernel) rfl) mi_X9_byteAt (As := [aI (h 18 3)]) (rest := []) (ct_X9_byteAt (h 18 3) h (OK_bind hh)) (by decide) ⟨Nat.zero_le _, Nat.zero_le _⟩ rfl rfl (Nat.le_of_ble_eq_true rfl) (by decide) rfl (by decide) rfl (fun r F' h' hq1 => ?_)
    obtain ⟨rfl, r1, rfl, e9, hh⟩ := hq1
    subst h'
    refine A_go hM.1 rfl rfl ?_
    exact A_reti hM.1 rfl rfl rfl (hq r1 hh)

set_option maxRecDepth 20000 in
set_option maxHeartbeats 4000000 in
theorem ct_X6_next {G : Gx} (h : Hp)   {P : Int → Prop} (hh : OK (X6_next h) P) : CT G yX6_next M_X6_next 2 0 0 FN h [aR 18] (fun r F' h' => F' = FN ∧ ∃ z, r = some (aI z) ∧ h' = h ∧ P z) :=
  CT.of (by decide +kernel) rfl (Nat.le_of_ble_eq_true rfl) k_X6_next fun k0 _ _ hM => c_X6_next hM h (fun z hz => ⟨rfl, z, rfl, rfl, hz⟩) hh

theorem mi_J0_isLatin1 : MIv yJ0_isLatin1_aae02 M_J0_isLatin1 0 := ⟨⟨(mem_GW 743 (by decide +kernel) rfl), (mem_GW 136 (by decide +kernel) rfl), by decide +kernel, by decide +kernel, by decide +kernel, by decide⟩, (mem_GW 741 (by decide +kernel) rfl), (mem_GW 742 (by decide +kernel) rfl)⟩
set_option maxRecDepth 20000 in
set_option maxHeartbeats 4000000 in
theorem c_J0_isLatin1 {k0 : K0} {G : Gx} {Qp : Option AV → Fx → Hp → Prop} (hM : MB (KM k0 0 0 Qp) G M_J0_isLatin1 1) (w : Nat) (h : Hp) (hw : w < 10) {P : Int → Prop} (hq : ∀ z : Int, P z → Qp (some (aI z)) FN h) (hh : OK (J0_isLatin1 w) P) : ATk (KM k0 0 0 Qp) FN 0 0 M_J0_isLatin1 0 [some (aR (1000 + w))] [] h := by
  unfold J0_isLatin1 at hh
  refine A_gst hM.1 rfl rfl (mem_GW 744 (by decide +kernel) rfl) ?_
  refine A_ifc hM.1 rfl rfl (fun hc => ?_) (fun hc => ?_)
  · replace hh := OK_t hh hc
    refine A_blk hM.1 1 (lv1 := [some (aR (1000 + w))]) (s1 := [aI 0]) (h1 := h) rfl ?_
    exact A_retz hM.1 rfl rfl rfl (by decide) (hq 0 hh)
  · replace hh := OK_f hh hc
    refine A_blk hM.1 1 (lv1 := [some (aR (1000 + w))]) (s1 := [aR (1000 + w)]) (h1 := h) rfl ?_
    refine A_gsc hM.1 hw rfl rfl (mem_GW 2358 (by decide +kernel) rfl) ?_
    refine A_ifc hM.1 rfl rfl (fun hc => ?_) (fun hc => ?_)
    · replace hh := OK_t hh hc
      refine A_blk hM.1 1 (lv1 := [some (aR (1000 + w))]) (s1 := [aI 0]) (h1 := h) rfl ?_
      exact A_retz hM.1 rfl rfl rfl (by decide) (hq 0 hh)
    · replace hh := OK_f hh hc
      refine A_blk hM.1 1 (lv1 := [some (aR (1000 + w))]) (s1 := [aI 1]) (h1 := h) rfl ?_
      refine A_go hM.1 rfl rfl ?_
      exact A_retz hM.1 rfl rfl rfl (by decide) (hq 1 hh)

set_option maxRecDepth 20000 in
set_option maxHeartbeats 4000000 in
theorem ct_J0_isLatin1 {G : Gx} (w : Nat) (h : Hp) (hw : w < 10) {P : Int → Prop} (hh : OK (J0_isLatin1 w) P) : CT G yJ0_isLatin1_aae02 M_J0_isLatin1 1 0 0 FN h [aR (1000 + w)] (fun r F' h' => F' = FN ∧ ∃ z, r = some (aI z) ∧ h' = h ∧ P z) :=
  CT.of (by decide +kernel) rfl (Nat.le_of_ble_eq_true rfl) k_J0_isLatin1 fun k0 _ _ hM => c_J0_isLatin1 hM w h hw (fun z hz => ⟨rfl, z, rfl, rfl, hz⟩) hh

theorem mi_J0_coder : MIv yJ0_coder_7d493 M_J0_coder 0 := ⟨⟨(mem_GW 753 (by decide +kernel) rfl), (mem_GW 136 (by decide +kernel) rfl), by decide +kernel, by decide +kernel, by decide +kernel, by decide⟩, (mem_GW 751 (by decide +kernel) rfl), (mem_GW 752 (by decide +kernel) rfl)⟩
set_option maxRecDepth 20000 in
set_option maxHeartbeats 4000000 in
theorem c_J0_coder {k0 : K0} {G : Gx} {Qp : Option AV → Fx → Hp → Prop} (hM : MB (KM k0 0 0 Qp) G M_J0_coder 1) (w : Nat) (h : Hp) (hw : w < 10) {P : Int → Prop} (hq : ∀ z : Int, P z → Qp (some (aI z)) FN h) (hh : OK (J0_coder w) P) : ATk (KM k0 0 0 Qp) FN 0 0 M_J0_coder 0 [some (aR (1000 + w))] [] h := by
  unfold J0_coder at hh
  refine A_gst hM.1 rfl rfl (mem_GW 744 (by decide +kernel) rfl) ?_
  refine A_ifc hM.1 rfl rfl (fun hc => ?_) (fun hc => ?_)
  · replace hh := OK_t hh hc
    refine A_blk hM.1 1 (lv1 := [some (aR (1000 + w))]) (s1 := [aI 1]) (h1 := h) rfl ?_
    exact A_retb hM.1 rfl rfl rfl (by decide) (hq 1 hh)
  · replace hh := OK_f hh hc
    refine A_blk hM.1 1 (lv1 := [some (aR (1000 + w))]) (s1 := [aR (1000 + w)]) (h1 := h) rfl ?_
    refine A_gsc hM.1 hw rfl rfl (mem_GW 2358 (by decide +kernel) rfl) ?_
    refine A_go hM.1 rfl rfl ?_
    exact A_retb hM.1 rfl rfl rfl (by decide) (hq 0 hh)

set_option maxRecDepth 20000 in
set_option maxHeartbeats 4000000 in
theorem ct_J0_coder {G : Gx} (w : Nat) (h : Hp) (hw : w < 10) {P : Int → Prop} (hh : OK (J0_coder w) P) : CT G yJ0_coder_7d493 M_J0_coder 1 0 0 FN h [aR (1000 + w)] (fun r F' h' => F' = FN ∧ ∃ z, r = some (aI z) ∧ h' = h ∧ P z) :=
  CT.of (by decide +kernel) rfl (Nat.le_of_ble_eq_true rfl) k_J0_coder fun k0 _ _ hM => c_J0_coder hM w h hw (fun z hz => ⟨rfl, z, rfl, rfl, hz⟩) hh

theorem mi_J0_length : MIv yJ0_length_8abf5 M_J0_length 0 := ⟨⟨(mem_GW 749 (by decide +kernel) rfl), (mem_GW 136 (by decide +kernel) rfl), by decide +kernel, by decide +kernel, by decide +kernel, by decide⟩, (mem_GW 747 (by decide +kernel) rfl), (mem_GW 748 (by decide +kernel) rfl)⟩
set_option maxRecDepth 20000 in
set_option maxHeartbeats 4000000 in
theorem c_J0_length {k0 : K0} {G : Gx} {Qp : Option AV → Fx → Hp → Prop} (hM : MB (KM k0 0 0 Qp) G M_J0_length 2) (w : Nat) (h : Hp) (hw : w < 10) {P : Int → Prop} (hq : ∀ z : Int, P z → Qp (some (aI z)) FN h) (hh : OK (J0_length w) P) : ATk (KM k0 0 0 Qp) FN 0 0 M_J0_length 0 [some (aR (1000 + w))] [] h := by
  unfold J0_length at hh
  refine A_blk hM.1 1 (lv1 := [some (aR (1000 + w))]) (s1 := [aR (1000 + w)]) (h1 := h) rfl ?_
  refine A_gsv hM.1 hw rfl rfl (mem_GW 2359 (by decide +kernel) rfl) ?_
  refine A_alens hM.1 hw rfl rfl ?_
  refine A_blk hM.1 1 (lv1 := [some (aR (1000 + w))]) (s1 := [aR (1000 + w), aI (sLn w : Nat)]) (h1 := h) rfl ?_
  refine A_callVs (w := w) hM hw rfl rfl (mem_GW 750 (by decide +kernel) rfl) mi_J0_coder (As := []) (rest := [aI (sLn w : Nat)]) (ct_J0_coder w h hw (OK_bind hh)) (by decide) ⟨Nat.zero_le _, Nat.zero_le _⟩ rfl rfl (Nat.le_of_ble_eq_true rfl) rfl (fun r F' h' hq1 => ?_)
  obtain ⟨rfl, r1, rfl, e9, hh⟩ := hq1
  subst h'
  refine A_blk hM.1 1 (lv1 := [some (aR (1000 + w))]) (s1 := [aI (shr32 (sLn w : Nat) r1)]) (h1 := h) rfl ?_
  exact A_reti hM.1 rfl rfl rfl (hq (shr32 (sLn w : Nat) r1) hh)

set_option maxRecDepth 20000 in
set_option maxHeartbeats 4000000 in
theorem ct_J0_length {G : Gx} (w : Nat) (h : Hp) (hw : w < 10) {P : Int → Prop} (hh : OK (J0_length w) P) : CT G yJ0_length_8abf5 M_J0_length 2 0 0 FN h [aR (1000 + w)] (fun r F' h' => F' = FN ∧ ∃ z, r = some (aI z) ∧ h' = h ∧ P z) :=
  CT.of (by decide +kernel) rfl (Nat.le_of_ble_eq_true rfl) k_J0_length fun k0 _ _ hM => c_J0_length hM w h hw (fun z hz => ⟨rfl, z, rfl, rfl, hz⟩) hh

theorem mi_J1_canEncode : MIs yJ1_canEncode_9a6ad M_J1_canEncode 1 := ⟨(mem_GW 759 (by decide +kernel) rfl), (mem_GW 137 (by decide +kernel) rfl), by decide +kernel, by decide +kernel, by decide +kernel, by decide⟩
theorem ms_J1_canEncode : .static yJ1_canEncode_9a6ad ∈ GW := (mem_GW 758 (by decide +kernel) rfl)
set_option maxRecDepth 20000 in
set_option maxHeartbeats 4000000 in
theorem c_J1_canEncode {k0 : K0} {G : Gx} {Qp : Option AV → Fx → Hp → Prop} (hM : MB (KM k0 0 0 Qp) G M_J1_canEncode 1) (v0 : Int) (h : Hp)  {P : Int → Prop} (hq : ∀ z : Int, P z → Qp (some (aI z)) FN h) (hh : OK (J1_canEncode v0) P) : ATk (KM k0 0 0 Qp) FN 0 0 M_J1_canEncode 0 [some (aI v0)] [] h := by
  unfold J1_canEncode at hh
  refine A_blk hM.1 1 (lv1 := [some (aI v0)]) (s1 := [aI v0]) (h1 := h) rfl ?_
  refine A_ifc hM.1 rfl rfl (fun hc => ?_) (fun hc => ?_)
  · replace hh := OK_t hh hc
    refine A_blk hM.1 1 (lv1 := [some (aI v0)]) (s1 := [aI 0]) (h1 := h) rfl ?_
    exact A_retz hM.1 rfl rfl rfl (by decide) (hq 0 hh)
  · replace hh := OK_f hh hc
    refine A_blk hM.1 2 (lv1 := [some (aI v0)]) (s1 := [aI 255, aI v0]) (h1 := h) rfl ?_
    refine A_icmp hM.1 rfl rfl (fun hc => ?_) (fun hc => ?_)
    · replace hh := OK_t hh hc
      refine A_blk hM.1 1 (lv1 := [some (aI v0)]) (s1 := [aI 0]) (h1 := h) rfl ?_
      exact A_retz hM.1 rfl rfl rfl (by decide) (hq 0 hh)
    · replace hh := OK_f hh hc
      refine A_blk hM.1 1 (lv1 := [some (aI v0)]) (s1 := [aI 1]) (h1 := h) rfl ?_
      refine A_go hM.1 rfl rfl ?_
      exact A_retz hM.1 rfl rfl rfl (by decide) (hq 1 hh)

set_option maxRecDepth 20000 in
set_option maxHeartbeats 4000000 in
theorem ct_J1_canEncode {G : Gx} (v0 : Int) (h : Hp)  {P : Int → Prop} (hh : OK (J1_canEncode v0) P) : CT G yJ1_canEncode_9a6ad M_J1_canEncode 1 0 0 FN h [aI v0] (fun r F' h' => F' = FN ∧ ∃ z, r = some (aI z) ∧ h' = h ∧ P z) :=
  CT.of (by decide +kernel) rfl (Nat.le_of_ble_eq_true rfl) k_J1_canEncode fun k0 _ _ hM => c_J1_canEncode hM v0 h (fun z hz => ⟨rfl, z, rfl, rfl, hz⟩) hh

theorem mi_J1_indexOfChar : MIs yJ1_indexOfChar_4cfef M_J1_indexOfChar 4 := ⟨(mem_GW 768 (by decide +kernel) rfl), (mem_GW 137 (by decide +kernel) rfl), by decide +kernel, by decide +kernel, by decide +kernel, by decide⟩
theorem ms_J1_indexOfChar : .static yJ1_indexOfChar_4cfef ∈ GW := (mem_GW 767 (by decide +kernel) rfl)
set_option maxRecDepth 20000 in
set_option maxHeartbeats 4000000 in
theorem c_J1_indexOfChar_l5 {k0 : K0} {G : Gx} {Qp : Option AV → Fx → Hp → Prop} (hM : MB (KM k0 0 0 Qp) G M_J1_indexOfChar 1) (w : Nat) (v3 : Int) (v4 : Int) (x : Int) (h : Hp) (hw : w < 10) {P : ((Int) ⊕ ((Int) ⊕ (Unit))) → Prop} (hin : ∀ y : Int, P (.inl y) → ATk (KM k0 0 0 Qp) FN 0 0 M_J1_indexOfChar 5 [some (aR (2000 + w)), none, none, some (aI v3), some (aI v4), some (aI y)] [] h) (hout0 : ∀ y : Int, P (.inr (.inl y)) → ATk (KM k0 0 0 Qp) FN 0 0 M_J1_indexOfChar 13 [none, none, none, none, none, some (aI y)] [] h) (hout1 : ∀ y : Unit, P (.inr (.inr y)) → ATk (KM k0 0 0 Qp) FN 0 0 M_J1_indexOfChar 17 [none, none, none, none, none, none] [] h) (hh : OK (J1_indexOfChar_l5 w v3 v4 x) P) : ATk (KM k0 0 0 Qp) FN 0 0 M_J1_indexOfChar 5 [some (aR (2000 + w)), none, none, some (aI v3), some (aI v4), some (aI x)] [] h := by
  unfold J1_indexOfChar_l5 at hh
  refine A_blk hM.1 2 (lv1 := [some (aR (2000 + w)), none, none, some (aI v3), some (aI v4), some (aI x)]) (s1 := [aI v3, aI x]) (h1 := h) rfl ?_
  refine A_icmp hM.1 rfl rfl (fun hc => ?_) (fun hc => ?_)
  · replace hh := OK_t hh hc
    refine A_mask [false, true, true, false, false, false] (lv1 := [none, none, none, none, none, none]) rfl ?_
    exact hout1 () hh
  · replace hh := OK_f hh hc
    refine A_blk hM.1 2 (lv1 := [some (aR (2000 + w)), none, none, some (aI v3), some (aI v4), some (aI x)]) (s1 := [aI x, aR (2000 + w)]) (h1 := h) rfl ?_
    obtain ⟨g1, hh⟩ := OK_g hh
    refine A_balds hM.1 hw rfl rfl g1 ?_
    refine A_blk hM.1 1 (lv1 := [some (aR (2000 + w)), none, none, some (aI v3), some (aI v4), some (aI x)]) (s1 := [aI v4, aI (sBy w (w32 x).toNat)]) (h1 := h) rfl ?_
    refine A_icmp hM.1 rfl rfl (fun hc => ?_) (fun hc => ?_)
    · replace hh := OK_t hh hc
      refine A_blk hM.1 1 (lv1 := [some (aR (2000 + w)), none, none, some (aI v3), some (aI v4), some (aI (x + 1))]) (s1 := []) (h1 := h) rfl ?_
      refine A_go hM.1 rfl rfl ?_
      exact hin (x + 1) hh
    · replace hh := OK_f hh hc
      refine A_mask [false, true, true, false, false, true] (lv1 := [none, none, none, none, none, some (aI x)]) rfl ?_
      exact hout0 x hh

set_option maxRecDepth 20000 in
set_option maxHeartbeats 4000000 in
theorem c_J1_indexOfChar {k0 : K0} {G : Gx} {Qp : Option AV → Fx → Hp → Prop} (hM : MB (KM k0 0 0 Qp) G M_J1_indexOfChar 1) (w : Nat) (v1 : Int) (v2 : Int) (v3 : Int) (h : Hp) (hw : w < 10) {P : Int → Prop} (hq : ∀ z : Int, P z → Qp (some (aI z)) FN h) (hh : OK (J1_indexOfChar w v1 v2 v3) P) : ATk (KM k0 0 0 Qp) FN 0 0 M_J1_indexOfChar 0 [some (aR (2000 + w)), some (aI v1), some (aI v2), some (aI v3), none, none] [] h := by
  unfold J1_indexOfChar at hh
  refine A_blk hM.1 5 (lv1 := [some (aR (2000 + w)), some (aI v1), some (aI v2), some (aI v3), some (aI (b8 v1)), some (aI v2)]) (s1 := []) (h1 := h) rfl ?_
  refine A_mask [true, false, false, true, true, true] (lv1 := [some (aR (2000 + w)), none, none, some (aI v3), some (aI (b8 v1)), some (aI v2)]) rfl ?_
  refine iter_ok (s := v2) (Gp := fun z => ATk (KM k0 0 0 Qp) FN 0 0 M_J1_indexOfChar 5 [some (aR (2000 + w)), none, none, some (aI v3), some (aI (b8 v1)), some (aI z)] [] h) (E := fun z => (∀ y, z = (.inl y) → ATk (KM k0 0 0 Qp) FN 0 0 M_J1_indexOfChar 13 [none, none, none, none, none, some (aI y)] [] h) ∧ (∀ y, z = (.inr y) → ATk (KM k0 0 0 Qp) FN 0 0 M_J1_indexOfChar 17 [none, none, none, none, none, none] [] h)) (fun z P1 g1 g2 g3 => c_J1_indexOfChar_l5 hM w v3 (b8 v1) z h hw g2 (fun y hy => (g3 (.inl y) hy).1 y rfl) (fun y hy => (g3 (.inr y) hy).2 y rfl) g1) (OK_bind hh) (fun x2 hh => ?_)
  refine ⟨fun y e => ?_, fun y e => ?_⟩
  · obtain ⟨y3, rfl⟩ : ∃ z, z = y := ⟨_, rfl⟩
    subst e
    refine A_blk hM.1 1 (lv1 := [none, none, none, none, none, some (aI y3)]) (s1 := [aI y3]) (h1 := h) rfl ?_
    exact A_reti hM.1 rfl rfl rfl (hq y3 hh)
  · obtain ⟨y4, rfl⟩ : ∃ z, z = y := ⟨_, rfl⟩
    subst e
    refine A_blk hM.1 1 (lv1 := [none, none, none, none, none, none]) (s1 := [aI (-1)]) (h1 := h) rfl ?_
    exact A_reti hM.1 rfl rfl rfl (hq (-1) hh)

set_option maxRecDepth 20000 in
set_option maxHeartbeats 4000000 in
theorem ct_J1_indexOfChar {G : Gx} (w : Nat) (v1 : Int) (v2 : Int) (v3 : Int) (h : Hp) (hw : w < 10) {P : Int → Prop} (hh : OK (J1_indexOfChar w v1 v2 v3) P) : CT G yJ1_indexOfChar_4cfef M_J1_indexOfChar 1 0 0 FN h [aR (2000 + w), aI v1, aI v2, aI v3] (fun r F' h' => F' = FN ∧ ∃ z, r = some (aI z) ∧ h' = h ∧ P z) :=
  CT.of (by decide +kernel) rfl (Nat.le_of_ble_eq_true rfl) k_J1_indexOfChar fun k0 _ _ hM => c_J1_indexOfChar hM w v1 v2 v3 h hw (fun z hz => ⟨rfl, z, rfl, rfl, hz⟩) hh

theorem mi_J1_indexOf : MIs yJ1_indexOf_4cfef M_J1_indexOf 4 := ⟨(mem_GW 756 (by decide +kernel) rfl), (mem_GW 137 (by decide +kernel) rfl), by decide +kernel, by decide +kernel, by decide +kernel, by decide⟩
theorem ms_J1_indexOf : .static yJ1_indexOf_4cfef ∈ GW := (mem_GW 755 (by decide +kernel) rfl)
set_option maxRecDepth 20000 in
set_option maxHeartbeats 4000000 in
theorem c_J1_indexOf {k0 : K0} {G : Gx} {Qp : Option AV → Fx → Hp → Prop} (hM : MB (KM k0 0 0 Qp) G M_J1_indexOf 3) (w : Nat) (v1 : Int) (v2 : Int) (v3 : Int) (h : Hp) (hw : w < 10) {P : Int → Prop} (hq : ∀ z : Int, P z → Qp (some (aI z)) FN h) (hh : OK (J1_indexOf w v1 v2 v3) P) : ATk (KM k0 0 0 Qp) FN 0 0 M_J1_indexOf 0 [some (aR (2000 + w)), some (aI v1), some (aI v2), some (aI v3)] [] h := by
  unfold J1_indexOf at hh
  refine A_blk hM.1 1 (lv1 := [some (aR (2000 + w)), some (aI v1), some (aI v2), some (aI v3)]) (s1 := [aI v1]) (h1 := h) rfl ?_
  refine A_callS hM rfl rfl (mem_GW 757 (by decide +kernel) rfl) mi_J1_canEncode ms_J1_canEncode (As := [aI v1]) (rest := []) (ct_J1_canEncode v1 h (OK_bind hh)) (by decide) ⟨Nat.zero_le _, Nat.zero_le _⟩ rfl rfl (Nat.le_of_ble_eq_true rfl) (fun r F' h' hq1 => ?_)
  obtain ⟨rfl, r1, rfl, e9, hh⟩ := hq1
  subst h'
  refine A_ifc hM.1 rfl rfl (fun hc => ?_) (fun hc => ?_)
  · replace hh := OK_t hh hc
    refine A_blk hM.1 2 (lv1 := [some (aR (2000 + w)), some (aI v1), some (aI v2), some (aI v3)]) (s1 := [aI 0, aI v2]) (h1 := h) rfl ?_
    refine A_max hM rfl rfl (mem_GW 760 (by decide +kernel) rfl) (by decide) (Nat.le_of_ble_eq_true rfl) ⟨Nat.zero_le _, Nat.zero_le _⟩ ?_
    refine A_blk hM.1 3 (lv1 := [some (aR (2000 + w)), some (aI v1), some (aI (maxI v2 0)), some (aI v3)]) (s1 := [aR (2000 + w), aI v3]) (h1 := h) rfl ?_
    refine A_alens hM.1 hw rfl rfl ?_
    refine A_min hM rfl rfl (mem_GW 763 (by decide +kernel) rfl) (by decide) (Nat.le_of_ble_eq_true rfl) ⟨Nat.zero_le _, Nat.zero_le _⟩ ?_
    refine A_blk hM.1 3 (lv1 := [some (aR (2000 + w)), some (aI v1), some (aI (maxI v2 0)), some (aI (minI v3 (sLn w : Nat)))]) (s1 := [aI (minI v3 (sLn w : Nat)), aI (maxI v2 0)]) (h1 := h) rfl ?_
    refine A_icmp hM.1 rfl rfl (fun hc => ?_) (fun hc => ?_)
    · replace hh := OK_t hh hc
      refine A_blk hM.1 4 (lv1 := [some (aR (2000 + w)), some (aI v1), some (aI (maxI v2 0)), some (aI (minI v3 (sLn w : Nat)))]) (s1 := [aI (minI v3 (sLn w : Nat)), aI (maxI v2 0), aI v1, aR (2000 + w)]) (h1 := h) rfl ?_
      refine A_callS hM rfl rfl (mem_GW 766 (by decide +kernel) rfl) mi_J1_indexOfChar ms_J1_indexOfChar (As := [aR (2000 + w), aI v1, aI (maxI v2 0), aI (minI v3 (sLn w : Nat))]) (rest := []) (ct_J1_indexOfChar w v1 (maxI v2 0) (minI v3 (sLn w : Nat)) h hw (OK_bind hh)) (by decide) ⟨Nat.zero_le _, Nat.zero_le _⟩ rfl rfl (Nat.le_of_ble_eq_true rfl) (fun r F' h' hq1 => ?_)
      obtain ⟨rfl, r2, rfl, e9, hh⟩ := hq1
      subst h'
      exact A_reti hM.1 rfl rfl rfl (hq r2 hh)
    · replace hh := OK_f hh hc
      refine A_blk hM.1 1 (lv1 := [some (aR (2000 + w)), some (aI v1), some (aI (maxI v2 0)), some (aI (minI v3 (sLn w : Nat)))]) (s1 := [aI (-1)]) (h1 := h) rfl ?_
      exact A_reti hM.1 rfl rfl rfl (hq (-1) hh)
  · replace hh := OK_f hh hc
    refine A_blk hM.1 1 (lv1 := [some (aR (2000 + w)), some (aI v1), some (aI v2), some (aI v3)]) (s1 := [aI (-1)]) (h1 := h) rfl ?_
    exact A_reti hM.1 rfl rfl rfl (hq (-1) hh)

set_option maxRecDepth 20000 in
set_option maxHeartbeats 4000000 in
theorem ct_J1_indexOf {G : Gx} (w : Nat) (v1 : Int) (v2 : Int) (v3 : Int) (h : Hp) (hw : w < 10) {P : Int → Prop} (hh : OK (J1_indexOf w v1 v2 v3) P) : CT G yJ1_indexOf_4cfef M_J1_indexOf 3 0 0 FN h [aR (2000 + w), aI v1, aI v2, aI v3] (fun r F' h' => F' = FN ∧ ∃ z, r = some (aI z) ∧ h' = h ∧ P z) :=
  CT.of (by decide +kernel) rfl (Nat.le_of_ble_eq_true rfl) k_J1_indexOf fun k0 _ _ hM => c_J1_indexOf hM w v1 v2 v3 h hw (fun z hz => ⟨rfl, z, rfl, rfl, hz⟩) hh

theorem mi_J0_indexOf2 : MIv yJ0_indexOf_7cf53 M_J0_indexOf2 2 := ⟨⟨(mem_GW 739 (by decide +kernel) rfl), (mem_GW 136 (by decide +kernel) rfl), by decide +kernel, by decide +kernel, by decide +kernel, by decide⟩, (mem_GW 737 (by decide +kernel) rfl), (mem_GW 738 (by decide +kernel) rfl)⟩
set_option maxRecDepth 20000 in
set_option maxHeartbeats 4000000 in
theorem c_J0_indexOf2 {k0 : K0} {G : Gx} {Qp : Option AV → Fx → Hp → Prop} (hM : MB (KM k0 0 0 Qp) G M_J0_indexOf2 4) (w : Nat) (v1 : Int) (v2 : Int) (h : Hp) (hw : w < 10) {P : Int → Prop} (hq : ∀ z : Int, P z → Qp (some (aI z)) FN h) (hh : OK (J0_indexOf2 w v1 v2) P) : ATk (KM k0 0 0 Qp) FN 0 0 M_J0_indexOf2 0 [some (aR (1000 + w)), some (aI v1), some (aI v2)] [] h := by
  unfold J0_indexOf2 at hh
  refine A_blk hM.1 1 (lv1 := [some (aR (1000 + w)), some (aI v1), some (aI v2)]) (s1 := [aR (1000 + w)]) (h1 := h) rfl ?_
  refine A_callVs (w := w) hM hw rfl rfl (mem_GW 740 (by decide +kernel) rfl) mi_J0_isLatin1 (As := []) (rest := []) (ct_J0_isLatin1 w h hw (OK_bind hh)) (by decide) ⟨Nat.zero_le _, Nat.zero_le _⟩ rfl rfl (Nat.le_of_ble_eq_true rfl) rfl (fun r F' h' hq1 => ?_)
  obtain ⟨rfl, r1, rfl, e9, hh⟩ := hq1
  subst h'
  refine A_ifc hM.1 rfl rfl (fun hc => ?_) (fun hc => ?_)
  · replace hh := OK_t hh hc
    exact hh.elim
  · replace hh := OK_f hh hc
    refine A_blk hM.1 1 (lv1 := [some (aR (1000 + w)), some (aI v1), some (aI v2)]) (s1 := [aR (1000 + w)]) (h1 := h) rfl ?_
    refine A_gsv hM.1 hw rfl rfl (mem_GW 2359 (by decide +kernel) rfl) ?_
    refine A_blk hM.1 3 (lv1 := [some (aR (1000 + w)), some (aI v1), some (aI v2)]) (s1 := [aR (1000 + w), aI v2, aI v1, aR (2000 + w)]) (h1 := h) rfl ?_
    refine A_callVs (w := w) hM hw rfl rfl (mem_GW 746 (by decide +kernel) rfl) mi_J0_length (As := []) (rest := [aI v2, aI v1, aR (2000 + w)]) (ct_J0_length w h hw (OK_bind hh)) (by decide) ⟨Nat.zero_le _, Nat.zero_le _⟩ rfl rfl (Nat.le_of_ble_eq_true rfl) rfl (fun r F' h' hq1 => ?_)
    obtain ⟨rfl, r2, rfl, e9, hh⟩ := hq1
    subst h'
    refine A_callS hM rfl rfl (mem_GW 754 (by decide +kernel) rfl) mi_J1_indexOf ms_J1_indexOf (As := [aR (2000 + w), aI v1, aI v2, aI r2]) (rest := []) (ct_J1_indexOf w v1 v2 r2 h hw (OK_bind hh)) (by decide) ⟨Nat.zero_le _, Nat.zero_le _⟩ rfl rfl (Nat.le_of_ble_eq_true rfl) (fun r F' h' hq1 => ?_)
    obtain ⟨rfl, r3, rfl, e9, hh⟩ := hq1
    subst h'
    refine A_go hM.1 rfl rfl ?_
    exact A_reti hM.1 rfl rfl rfl (hq r3 hh)

set_option maxRecDepth 20000 in
set_option maxHeartbeats 4000000 in
theorem ct_J0_indexOf2 {G : Gx} (w : Nat) (v1 : Int) (v2 : Int) (h : Hp) (hw : w < 10) {P : Int → Prop} (hh : OK (J0_indexOf2 w v1 v2) P) : CT G yJ0_indexOf_7cf53 M_J0_indexOf2 4 0 0 FN h [aR (1000 + w), aI v1, aI v2] (fun r F' h' => F' = FN ∧ ∃ z, r = some (aI z) ∧ h' = h ∧ P z) :=
  CT.of (by decide +kernel) rfl (Nat.le_of_ble_eq_true rfl) k_J0_indexOf2 fun k0 _ _ hM => c_J0_indexOf2 hM w v1 v2 h hw (fun z hz => ⟨rfl, z, rfl, rfl, hz⟩) hh

theorem mi_J0_indexOf : MIv yJ0_indexOf_0f7a4 M_J0_indexOf 1 := ⟨⟨(mem_GW 735 (by decide +kernel) rfl), (mem_GW 136 (by decide +kernel) rfl), by decide +kernel, by decide +kernel, by decide +kernel, by decide⟩, (mem_GW 733 (by decide +kernel) rfl), (mem_GW 734 (by decide +kernel) rfl)⟩
set_option maxRecDepth 20000 in
set_option maxHeartbeats 4000000 in
theorem c_J0_indexOf {k0 : K0} {G : Gx} {Qp : Option AV → Fx → Hp → Prop} (hM : MB (KM k0 0 0 Qp) G M_J0_indexOf 5) (w : Nat) (v1 : Int) (h : Hp) (hw : w < 10) {P : Int → Prop} (hq : ∀ z : Int, P z → Qp (some (aI z)) FN h) (hh : OK (J0_indexOf w v1) P) : ATk (KM k0 0 0 Qp) FN 0 0 M_J0_indexOf 0 [some (aR (1000 + w)), some (aI v1)] [] h := by
  unfold J0_indexOf at hh
  refine A_blk hM.1 3 (lv1 := [some (aR (1000 + w)), some (aI v1)]) (s1 := [aI 0, aI v1, aR (1000 + w)]) (h1 := h) rfl ?_
  refine A_callVs (w := w) hM hw rfl rfl (mem_GW 736 (by decide +kernel) rfl) mi_J0_indexOf2 (As := [aI v1, aI 0]) (rest := []) (ct_J0_indexOf2 w v1 0 h hw (OK_bind hh)) (by decide) ⟨Nat.zero_le _, Nat.zero_le _⟩ rfl rfl (Nat.le_of_ble_eq_true rfl) rfl (fun r F' h' hq1 => ?_)
  obtain ⟨rfl, r1, rfl, e9, hh⟩ := hq1
  subst h'
  exact A_reti hM.1 rfl rfl rfl (hq r1 hh)

set_option maxRecDepth 20000 in
set_option maxHeartbeats 4000000 in
theorem ct_J0_indexOf {G : Gx} (w : Nat) (v1 : Int) (h : Hp) (hw : w < 10) {P : Int → Prop} (hh : OK (J0_indexOf w v1) P) : CT G yJ0_indexOf_0f7a4 M_J0_indexOf 5 0 0 FN h [aR (1000 + w), aI v1] (fun r F' h' => F' = FN ∧ ∃ z, r = some (aI z) ∧ h' = h ∧ P z) :=
  CT.of (by decide +kernel) rfl (Nat.le_of_ble_eq_true rfl) k_J0_indexOf fun k0 _ _ hM => c_J0_indexOf hM w v1 h hw (fun z hz => ⟨rfl, z, rfl, rfl, hz⟩) hh

theorem mi_X6_nextIsOf : MIv yX6_nextIsOf M_X6_nextIsOf 1 := ⟨⟨(mem_GW 726 (by decide +kernel) rfl), (mem_GW 126 (by decide +kernel) rfl), by decide +kernel, by decide +kernel, by decide +kernel, by decide⟩, (mem_GW 725 (by decide +kernel) rfl), (mem_GW 5 (by decide +kernel) rfl)⟩
set_option maxRecDepth 20000 in
set_option maxHeartbeats 4000000 in
theorem c_X6_nextIsOf {k0 : K0} {G : Gx} {Qp : Option AV → Fx → Hp → Prop} (hM : MB (KM k0 0 0 Qp) G M_X6_nextIsOf 6) (w : Nat) (h : Hp)  (hw : w < 10) {P : Int → Prop} (hq : ∀ z : Int, P z → Qp (some (aI z)) FN h) (hh : OK (X6_nextIsOf w h) P) : ATk (KM k0 0 0 Qp) FN 0 0 M_X6_nextIsOf 0 [some (aR 18), some (aR (1000 + w)), none] [] h := by
  unfold X6_nextIsOf at hh
  refine A_blk hM.1 1 (lv1 := [some (aR 18), some (aR (1000 + w)), none]) (s1 := [aR 18]) (h1 := h) rfl ?_
  refine A_callV hM rfl rfl (mem_GW 727 (by decide +kernel) rfl) mi_X6_next (As := []) (rest := []) (ct_X6_next h (OK_bind hh)) (by decide) ⟨Nat.zero_le _, Nat.zero_le _⟩ rfl rfl (Nat.le_of_ble_eq_true rfl) (by decide) rfl (by decide) rfl (fun r F' h' hq1 => ?_)
  obtain ⟨rfl, r1, rfl, e9, hh⟩ := hq1
  subst h'
  refine A_blk hM.1 3 (lv1 := [some (aR 18), some (aR (1000 + w)), some (aI r1)]) (s1 := [aI (h 18 4)]) (h1 := h) rfl ?_
  refine A_ifc hM.1 rfl rfl (fun hc => ?_) (fun hc => ?_)
  · replace hh := OK_t hh hc
    refine A_blk hM.1 1 (lv1 := [some (aR 18), some (aR (1000 + w)), some (aI r1)]) (s1 := [aI 0]) (h1 := h) rfl ?_
    exact A_retz hM.1 rfl rfl rfl (by decide) (hq 0 hh)
  · replace hh := OK_f hh hc
    refine A_blk hM.1 1 (lv1 := [some (aR 18), some (aR (1000 + w)), some (aI r1)]) (s1 := [aI r1]) (h1 := h) rfl ?_
    refine A_ifc hM.1 rfl rfl (fun hc => ?_) (fun hc => ?_)
    · replace hh := OK_t hh hc
      refine A_blk hM.1 1 (lv1 := [some (aR 18), some (aR (1000 + w)), some (aI r1)]) (s1 := [aI 0]) (h1 := h) rfl ?_
      exact A_retz hM.1 rfl rfl rfl (by decide) (hq 0 hh)
    · replace hh := OK_f hh hc
      refine A_blk hM.1 3 (lv1 := [some (aR 18), some (aR (1000 + w)), some (aI r1)]) (s1 := [aI (c16 r1), aR (1000 + w)]) (h1 := h) rfl ?_
      refine A_callVs (w := w) hM hw rfl rfl (mem_GW 732 (by decide +kernel) rfl) mi_J0_indexOf (As := [aI (c16 r1)]) (rest := []) (ct_J0_indexOf w (c16 r1) h hw (OK_bind hh)) (by decide) ⟨Nat.zero_le _, Nat.zero_le _⟩ rfl rfl (Nat.le_of_ble_eq_true rfl) rfl (fun r F' h' hq1 => ?_)
      obtain ⟨rfl, r2, rfl, e9, hh⟩ := hq1
      subst h'
      refine A_ifc hM.1 rfl rfl (fun hc => ?_) (fun hc => ?_)
      · replace hh := OK_t hh hc
        refine A_blk hM.1 1 (lv1 := [some (aR 18), some (aR (1000 + w)), some (aI r1)]) (s1 := [aI 0]) (h1 := h) rfl ?_
        exact A_retz hM.1 rfl rfl rfl (by decide) (hq 0 hh)
      · replace hh := OK_f hh hc
        refine A_blk hM.1 1 (lv1 := [some (aR 18), some (aR (1000 + w)), some (aI r1)]) (s1 := [aI 1]) (h1 := h) rfl ?_
        refine A_go hM.1 rfl rfl ?_
        exact A_retz hM.1 rfl rfl rfl (by decide) (hq 1 hh)

set_option maxRecDepth 20000 in
set_option maxHeartbeats 4000000 in
theorem ct_X6_nextIsOf {G : Gx} (w : Nat) (h : Hp)  (hw : w < 10) {P : Int → Prop} (hh : OK (X6_nextIsOf w h) P) : CT G yX6_nextIsOf M_X6_nextIsOf 6 0 0 FN h [aR 18, aR (1000 + w)] (fun r F' h' => F' = FN ∧ ∃ z, r = some (aI z) ∧ h' = h ∧ P z) :=
  CT.of (by decide +kernel) rfl (Nat.le_of_ble_eq_true rfl) k_X6_nextIsOf fun k0 _ _ hM => c_X6_nextIsOf hM w h hw (fun z hz => ⟨rfl, z, rfl, rfl, hz⟩) hh

theorem mi_X6_blame : MIv yX6_blame M_X6_blame 1 := ⟨⟨(mem_GW 821 (by decide +kernel) rfl), (mem_GW 126 (by decide +kernel) rfl), by decide +kernel, by decide +kernel, by decide +kernel, by decide⟩, (mem_GW 820 (by decide +kernel) rfl), (mem_GW 7 (by decide +kernel) rfl)⟩
set_option maxRecDepth 20000 in
set_option maxHeartbeats 4000000 in
theorem c_X6_blame {k0 : K0} {G : Gx} {Qp : Option AV → Fx → Hp → Prop} (hM : MB (KM k0 0 0 Qp) G M_X6_blame 1) (v1 : Int) (h : Hp)   {P : Hp → Prop} (hq : ∀ z : Hp, P z → Qp none FN z) (hh : OK (X6_blame v1 h) P) : ATk (KM k0 0 0 Qp) FN 0 0 M_X6_blame 0 [some (aR 18), some (aI v1)] [] h := by
  unfold X6_blame at hh
  refine A_blk hM.1 2 (lv1 := [some (aR 18), some (aI v1)]) (s1 := [aI (h 18 4)]) (h1 := h) rfl ?_
  refine A_ifc hM.1 rfl rfl (fun hc => ?_) (fun hc => ?_)
  · replace hh := OK_t hh hc
    exact A_retv hM.1 rfl rfl rfl (hq h hh)
  · replace hh := OK_f hh hc
    refine A_blk hM.1 8 (lv1 := [some (aR 18), some (aI v1)]) (s1 := []) (h1 := setH h 18 4 (((-1000) * v1) - (h 18 3))) rfl ?_
    exact A_retv hM.1 rfl rfl rfl (hq (setH h 18 4 (((-1000) * v1) - (h 18 3))) hh)

set_option maxRecDepth 20000 in
set_option maxHeartbeats 4000000 in
theorem ct_X6_blame {G : Gx} (v1 : Int) (h : Hp)   {P : Hp → Prop} (hh : OK (X6_blame v1 h) P) : CT G yX6_blame M_X6_blame 1 0 0 FN h [aR 18, aI v1] (fun r F' h' => F' = FN ∧ r = none ∧ P h') :=
  CT.of (by decide +kernel) rfl (Nat.le_of_ble_eq_true rfl) k_X6_blame fun k0 _ _ hM => c_X6_blame hM v1 h (fun z hz => ⟨rfl, rfl, hz⟩) hh

theorem mi_X10_clauses : MIv yX10_clauses M_X10_clauses 0 := ⟨⟨(mem_GW 825 (by decide +kernel) rfl), (mem_GW 127 (by decide +kernel) rfl), by decide +kernel, by decide +kernel, by decide +kernel, by decide⟩, (mem_GW 823 (by decide +kernel) rfl), (mem_GW 824 (by decide +kernel) rfl)⟩
set_option maxRecDepth 20000 in
set_option maxHeartbeats 4000000 in
theorem c_X10_clauses {k0 : K0} {G : Gx} {Qp : Option AV → Fx → Hp → Prop} (hM : MB (KM k0 0 0 Qp) G M_X10_clauses 1) (t : Nat) (h : Hp)  (ht : t ∈ txL) {P : Int → Prop} (hq : ∀ z : Int, P z → Qp (some (aI z)) FN h) (hh : OK (X10_clauses t h) P) : ATk (KM k0 0 0 Qp) FN 0 0 M_X10_clauses 0 [some (aR t)] [] h := by
  unfold X10_clauses at hh
  refine A_blk hM.1 1 (lv1 := [some (aR t)]) (s1 := [aR t]) (h1 := h) rfl ?_
  refine A_gi hM.1 rfl rfl rfl (tx_k0 ht) (tx_l0 ht) rfl ?_
  exact A_reti hM.1 rfl rfl rfl (hq (h t 0) hh)

set_option maxRecDepth 20000 in
set_option maxHeartbeats 4000000 in
theorem ct_X10_clauses {G : Gx} (t : Nat) (h : Hp)  (ht : t ∈ txL) {P : Int → Prop} (hh : OK (X10_clauses t h) P) : CT G yX10_clauses M_X10_clauses 1 0 0 FN h [aR t] (fun r F' h' => F' = FN ∧ ∃ z, r = some (aI z) ∧ h' = h ∧ P z) :=
  CT.of (by decide +kernel) rfl (Nat.le_of_ble_eq_true rfl) k_X10_clauses fun k0 _ _ hM => c_X10_clauses hM t h ht (fun z hz => ⟨rfl, z, rfl, rfl, hz⟩) hh

theorem mi_X6_opens : MIv yX6_opens M_X6_opens 1 := ⟨⟨(mem_GW 841 (by decide +kernel) rfl), (mem_GW 126 (by decide +kernel) rfl), by decide +kernel, by decide +kernel, by decide +kernel, by decide⟩, (mem_GW 840 (by decide +kernel) rfl), (mem_GW 11 (by decide +kernel) rfl)⟩
set_option maxRecDepth 20000 in
set_option maxHeartbeats 4000000 in
theorem c_X6_opens {k0 : K0} {G : Gx} {Qp : Option AV → Fx → Hp → Prop} (hM : MB (KM k0 0 0 Qp) G M_X6_opens 2) (v1 : Int) (h : Hp)   {P : (Int × Hp) → Prop} (hq : ∀ z : Int × Hp, P z → Qp (some (aI z.1)) FN z.2) (hh : OK (X6_opens v1 h) P) : ATk (KM k0 0 0 Qp) FN 0 0 M_X6_opens 0 [some (aR 18), some (aI v1)] [] h := by
  unfold X6_opens at hh
  refine A_blk hM.1 2 (lv1 := [some (aR 18), some (aI v1)]) (s1 := [aI 6, aI v1]) (h1 := h) rfl ?_
  refine A_icmp hM.1 rfl rfl (fun hc => ?_) (fun hc => ?_)
  · replace hh := OK_t hh hc
    refine A_blk hM.1 7 (lv1 := [some (aR 18), some (aI v1)]) (s1 := [aI 1]) (h1 := setH h 18 3 ((h 18 3) + 1)) rfl ?_
    exact A_retz hM.1 rfl rfl rfl (by decide) (hq (1, setH h 18 3 ((h 18 3) + 1)) hh)
  · replace hh := OK_f hh hc
    refine A_blk hM.1 2 (lv1 := [some (aR 18), some (aI v1)]) (s1 := [aI 5, aR 18]) (h1 := h) rfl ?_
    refine A_callV hM rfl rfl (mem_GW 818 (by decide +kernel) rfl) mi_X6_blame (As := [aI 5]) (rest := []) (ct_X6_blame 5 h (OK_bind hh)) (by decide) ⟨Nat.zero_le _, Nat.zero_le _⟩ rfl rfl (Nat.le_of_ble_eq_true rfl) (by decide) rfl (by decide) rfl (fun r F' h' hq1 => ?_)
    obtain ⟨rfl, rfl, hh⟩ := hq1
    obtain ⟨r1, rfl⟩ : ∃ z, z = h' := ⟨_, rfl⟩
    refine A_blk hM.1 1 (lv1 := [some (aR 18), some (aI v1)]) (s1 := [aI 0]) (h1 := r1) rfl ?_
    exact A_retz hM.1 rfl rfl rfl (by decide) (hq (0, r1) hh)

set_option maxRecDepth 20000 in
set_option maxHeartbeats 4000000 in
theorem ct_X6_opens {G : Gx} (v1 : Int) (h : Hp)   {P : (Int × Hp) → Prop} (hh : OK (X6_opens v1 h) P) : CT G yX6_opens M_X6_opens 2 0 0 FN h [aR 18, aI v1] (fun r F' h' => F' = FN ∧ ∃ z, r = some (aI z.1) ∧ h' = z.2 ∧ P z) :=
  CT.of (by decide +kernel) rfl (Nat.le_of_ble_eq_true rfl) k_X6_opens fun k0 _ _ hM => c_X6_opens hM v1 h (fun z hz => ⟨rfl, z, rfl, rfl, hz⟩) hh

theorem mi_X6_expect : MIv yX6_expect M_X6_expect 1 := ⟨⟨(mem_GW 845 (by decide +kernel) rfl), (mem_GW 126 (by decide +kernel) rfl), by decide +kernel, by decide +kernel, by decide +kernel, by decide⟩, (mem_GW 844 (by decide +kernel) rfl), (mem_GW 12 (by decide +kernel) rfl)⟩
set_option maxRecDepth 20000 in
set_option maxHeartbeats 4000000 in
theorem c_X6_expect_j14 {k0 : K0} {G : Gx} {Qp : Option AV → Fx → Hp → Prop} (hM : MB (KM k0 0 0 Qp) G M_X6_expect 3) (h : Hp)   {P : Hp → Prop} (hq : ∀ z : Hp, P z → Qp none FN z) (hh : OK (X6_expect_j14 h) P) : ATk (KM k0 0 0 Qp) FN 0 0 M_X6_expect 14 [some (aR 18), none] [] h := by
  unfold X6_expect_j14 at hh
  refine A_blk hM.1 2 (lv1 := [some (aR 18), none]) (s1 := [aI 1, aR 18]) (h1 := h) rfl ?_
  refine A_callV hM rfl rfl (mem_GW 818 (by decide +kernel) rfl) mi_X6_blame (As := [aI 1]) (rest := []) (ct_X6_blame 1 h (OK_bind hh)) (by decide) ⟨Nat.zero_le _, Nat.zero_le _⟩ rfl rfl (Nat.le_of_ble_eq_true rfl) (by decide) rfl (by decide) rfl (fun r F' h' hq1 => ?_)
  obtain ⟨rfl, rfl, hh⟩ := hq1
  obtain ⟨r2, rfl⟩ : ∃ z, z = h' := ⟨_, rfl⟩
  exact A_retv hM.1 rfl rfl rfl (hq r2 hh)

set_option maxRecDepth 20000 in
set_option maxHeartbeats 4000000 in
theorem c_X6_expect {k0 : K0} {G : Gx} {Qp : Option AV → Fx → Hp → Prop} (hM : MB (KM k0 0 0 Qp) G M_X6_expect 3) (v1 : Int) (h : Hp)   {P : Hp → Prop} (hq : ∀ z : Hp, P z → Qp none FN z) (hh : OK (X6_expect v1 h) P) : ATk (KM k0 0 0 Qp) FN 0 0 M_X6_expect 0 [some (aR 18), some (aI v1)] [] h := by
  unfold X6_expect at hh
  refine A_blk hM.1 1 (lv1 := [some (aR 18), some (aI v1)]) (s1 := [aR 18]) (h1 := h) rfl ?_
  refine A_callV hM rfl rfl (mem_GW 727 (by decide +kernel) rfl) mi_X6_next (As := []) (rest := []) (ct_X6_next h (OK_bind hh)) (by decide) ⟨Nat.zero_le _, Nat.zero_le _⟩ rfl rfl (Nat.le_of_ble_eq_true rfl) (by decide) rfl (by decide) rfl (fun r F' h' hq1 => ?_)
  obtain ⟨rfl, r1, rfl, e9, hh⟩ := hq1
  subst h'
  refine A_blk hM.1 1 (lv1 := [some (aR 18), some (aI v1)]) (s1 := [aI v1, aI r1]) (h1 := h) rfl ?_
  refine A_icmp hM.1 rfl rfl (fun hc => ?_) (fun hc => ?_)
  · replace hh := OK_t hh hc
    refine A_mask [true, false] (lv1 := [some (aR 18), none]) rfl ?_
    exact c_X6_expect_j14 hM h hq hh
  · replace hh := OK_f hh hc
    refine A_blk hM.1 2 (lv1 := [some (aR 18), some (aI v1)]) (s1 := [aI (h 18 4)]) (h1 := h) rfl ?_
    refine A_ifc hM.1 rfl rfl (fun hc => ?_) (fun hc => ?_)
    · replace hh := OK_t hh hc
      refine A_mask [true, false] (lv1 := [some (aR 18), none]) rfl ?_
      exact c_X6_expect_j14 hM h hq hh
    · replace hh := OK_f hh hc
      refine A_blk hM.1 6 (lv1 := [some (aR 18), some (aI v1)]) (s1 := []) (h1 := setH h 18 3 ((h 18 3) + 1)) rfl ?_
      refine A_go hM.1 rfl rfl ?_
      exact A_retv hM.1 rfl rfl rfl (hq (setH h 18 3 ((h 18 3) + 1)) hh)

set_option maxRecDepth 20000 in
set_option maxHeartbeats 4000000 in
theorem ct_X6_expect {G : Gx} (v1 : Int) (h : Hp)   {P : Hp → Prop} (hh : OK (X6_expect v1 h) P) : CT G yX6_expect M_X6_expect 3 0 0 FN h [aR 18, aI v1] (fun r F' h' => F' = FN ∧ r = none ∧ P h') :=
  CT.of (by decide +kernel) rfl (Nat.le_of_ble_eq_true rfl) k_X6_expect fun k0 _ _ hM => c_X6_expect hM v1 h (fun z hz => ⟨rfl, rfl, hz⟩) hh

theorem mi_X10_add : MIv yX10_add M_X10_add 2 := ⟨⟨(mem_GW 854 (by decide +kernel) rfl), (mem_GW 127 (by decide +kernel) rfl), by decide +kernel, by decide +kernel, by decide +kernel, by decide⟩, (mem_GW 852 (by decide +kernel) rfl), (mem_GW 853 (by decide +kernel) rfl)⟩
set_option maxRecDepth 20000 in
set_option maxHeartbeats 4000000 in
theorem c_X10_add {k0 : K0} {G : Gx} {Qp : Option AV → Fx → Hp → Prop} (hM : MB (KM k0 0 0 Qp) G M_X10_add 2) (t : Nat) (v1 : Int) (v2 : Int) (h : Hp)  (ht : t ∈ txL) {P : Hp → Prop} (hq : ∀ z : Hp, P z → Qp none FN z) (hh : OK (X10_add t v1 v2 h) P) : ATk (KM k0 0 0 Qp) FN 0 0 M_X10_add 0 [some (aR t), some (aI v1), some (aI v2)] [] h := by
  unfold X10_add at hh
  refine A_blk hM.1 1 (lv1 := [some (aR t), some (aI v1), some (aI v2)]) (s1 := [aR t]) (h1 := h) rfl ?_
  refine A_gr hM.1 rfl rfl rfl (tx_k0 ht) (tx_l0 ht) (Nat.lt_trans (tx_l4 ht) NF_lt) (tx_r5 ht) rfl ?_
  refine A_blk hM.1 1 (lv1 := [some (aR t), some (aI v1), some (aI v2)]) (s1 := [aR t, aR (t + 4)]) (h1 := h) rfl ?_
  refine A_gi hM.1 rfl rfl rfl (tx_k0 ht) (tx_l0 ht) rfl ?_
  refine A_blk hM.1 1 (lv1 := [some (aR t), some (aI v1), some (aI v2)]) (s1 := [aI v1, aI (h t 1), aR (t + 4)]) (h1 := h) rfl ?_
  refine A_callSN (host := "QuotedBooks") hM rfl rfl (mem_NW 855 (by decide +kernel) rfl) mi_X11_put ms_X11_put (As := [aR (t + 4), aI (h t 1), aI v1]) (rest := []) (ct_X11_put (t + 4) 160 (h t 1) v1 h (tx_k4 ht) (tx_n4 ht) (OK_bind hh)) (by decide) ⟨Nat.zero_le _, Nat.zero_le _⟩ rfl rfl (Nat.le_of_ble_eq_true rfl) (fun r F' h' hq1 => ?_)
  obtain ⟨rfl, rfl, hh⟩ := hq1
  obtain ⟨r1, rfl⟩ : ∃ z, z = h' := ⟨_, rfl⟩
  refine A_blk hM.1 1 (lv1 := [some (aR t), some (aI v1), some (aI v2)]) (s1 := [aR t]) (h1 := r1) rfl ?_
  refine A_gr hM.1 rfl rfl rfl (tx_k0 ht) (tx_l0 ht) (Nat.lt_trans (tx_l5 ht) NF_lt) (tx_r6 ht) rfl ?_
  refine A_blk hM.1 1 (lv1 := [some (aR t), some (aI v1), some (aI v2)]) (s1 := [aR t, aR (t + 5)]) (h1 := r1) rfl ?_
  refine A_gi hM.1 rfl rfl rfl (tx_k0 ht) (tx_l0 ht) rfl ?_
  refine A_blk hM.1 1 (lv1 := [some (aR t), some (aI v1), some (aI v2)]) (s1 := [aI v2, aI (r1 t 1), aR (t + 5)]) (h1 := r1) rfl ?_
  refine A_callSN (host := "QuotedBooks") hM rfl rfl (mem_NW 855 (by decide +kernel) rfl) mi_X11_put ms_X11_put (As := [aR (t + 5), aI (r1 t 1), aI v2]) (rest := []) (ct_X11_put (t + 5) 160 (r1 t 1) v2 r1 (tx_k5 ht) (tx_n5 ht) (OK_bind hh)) (by decide) ⟨Nat.zero_le _, Nat.zero_le _⟩ rfl rfl (Nat.le_of_ble_eq_true rfl) (fun r F' h' hq1 => ?_)
  obtain ⟨rfl, rfl, hh⟩ := hq1
  obtain ⟨r2, rfl⟩ : ∃ z, z = h' := ⟨_, rfl⟩
  refine A_blk hM.1 2 (lv1 := [some (aR t), some (aI v1), some (aI v2)]) (s1 := [aR t, aR t]) (h1 := r2) rfl ?_
  refine A_gi hM.1 rfl rfl rfl (tx_k0 ht) (tx_l0 ht) rfl ?_
  refine A_blk hM.1 2 (lv1 := [some (aR t), some (aI v1), some (aI v2)]) (s1 := [aI ((r2 t 1) + 1), aR t]) (h1 := r2) rfl ?_
  refine A_pi hM.1 rfl rfl rfl (tx_k0 ht) (tx_l0 ht) rfl rfl ?_
  exact A_retv hM.1 rfl rfl rfl (hq (setH r2 t 1 ((r2 t 1) + 1)) hh)

set_option maxRecDepth 20000 in
set_option maxHeartbeats 4000000 in
theorem ct_X10_add {G : Gx} (t : Nat) (v1 : Int) (v2 : Int) (h : Hp)  (ht : t ∈ txL) {P : Hp → Prop} (hh : OK (X10_add t v1 v2 h) P) : CT G yX10_add M_X10_add 2 0 0 FN h [aR t, aI v1, aI v2] (fun r F' h' => F' = FN ∧ r = none ∧ P h') :=
  CT.of (by decide +kernel) rfl (Nat.le_of_ble_eq_true rfl) k_X10_add fun k0 _ _ hM => c_X10_add hM t v1 v2 h ht (fun z hz => ⟨rfl, rfl, hz⟩) hh

theorem mi_X6_readNumber : MIv yX6_readNumber M_X6_readNumber 0 := ⟨⟨(mem_GW 850 (by decide +kernel) rfl), (mem_GW 126 (by decide +kernel) rfl), by decide +kernel, by decide +kernel, by decide +kernel, by decide⟩, (mem_GW 849 (by decide +kernel) rfl), (mem_GW 13 (by decide +kernel) rfl)⟩
set_option maxRecDepth 20000 in
set_option maxHeartbeats 4000000 in
theorem c_X6_readNumber_l4 {k0 : K0} {G : Gx} {Qp : Option AV → Fx → Hp → Prop} (hM : MB (KM k0 0 0 Qp) G M_X6_readNumber 3) (x : Int × Int × Hp)   {P : ((Int × Int × Hp) ⊕ ((Hp) ⊕ (Int × Hp))) → Prop} (hin : ∀ y : Int × Int × Hp, P (.inl y) → ATk (KM k0 0 0 Qp) FN 0 0 M_X6_readNumber 4 [some (aR 18), some (aI y.1), some (aI y.2.1)] [] y.2.2) (hout0 : ∀ y : Hp, P (.inr (.inl y)) → ATk (KM k0 0 0 Qp) FN 0 0 M_X6_readNumber 16 [some (aR 18), none, none] [] y) (hout1 : ∀ y : Int × Hp, P (.inr (.inr y)) → ATk (KM k0 0 0 Qp) FN 0 0 M_X6_readNumber 37 [some (aR 18), some (aI y.1), none] [] y.2) (hh : OK (X6_readNumber_l4 x) P) : ATk (KM k0 0 0 Qp) FN 0 0 M_X6_readNumber 4 [some (aR 18), some (aI x.1), some (aI x.2.1)] [] x.2.2 := by
  unfold X6_readNumber_l4 at hh
  refine A_blk hM.1 2 (lv1 := [some (aR 18), some (aI x.1), some (aI x.2.1)]) (s1 := [aI 5, aI x.2.1]) (h1 := x.2.2) rfl ?_
  refine A_icmp hM.1 rfl rfl (fun hc => ?_) (fun hc => ?_)
  · replace hh := OK_t hh hc
    refine A_mask [true, true, false] (lv1 := [some (aR 18), some (aI x.1), none]) rfl ?_
    exact hout1 (x.1, x.2.2) hh
  · replace hh := OK_f hh hc
    refine A_blk hM.1 1 (lv1 := [some (aR 18), some (aI x.1), some (aI x.2.1)]) (s1 := [aR 18]) (h1 := x.2.2) rfl ?_
    refine A_callV hM rfl rfl (mem_GW 727 (by decide +kernel) rfl) mi_X6_next (As := []) (rest := []) (ct_X6_next x.2.2 (OK_bind hh)) (by decide) ⟨Nat.zero_le _, Nat.zero_le _⟩ rfl rfl (Nat.le_of_ble_eq_true rfl) (by decide) rfl (by decide) rfl (fun r F' h' hq1 => ?_)
    obtain ⟨rfl, r1, rfl, e9, hh⟩ := hq1
    subst h'
    refine A_blk hM.1 2 (lv1 := [some (aR 18), some (aI x.1), some (aI x.2.1)]) (s1 := [aI 57, aI 48, aI r1]) (h1 := x.2.2) rfl ?_
    refine A_callSN (host := "QuotedBooks") hM rfl rfl (mem_NW 846 (by decide +kernel) rfl) mi_X11_within ms_X11_within (As := [aI r1, aI 48, aI 57]) (rest := []) (ct_X11_within r1 48 57 x.2.2 (OK_bind hh)) (by decide) ⟨Nat.zero_le _, Nat.zero_le _⟩ rfl rfl (Nat.le_of_ble_eq_true rfl) (fun r F' h' hq1 => ?_)
    obtain ⟨rfl, r2, rfl, e9, hh⟩ := hq1
    subst h'
    refine A_ifc hM.1 rfl rfl (fun hc => ?_) (fun hc => ?_)
    · replace hh := OK_t hh hc
      refine A_mask [true, true, false] (lv1 := [some (aR 18), some (aI x.1), none]) rfl ?_
      exact hout1 (x.1, x.2.2) hh
    · replace hh := OK_f hh hc
      refine A_blk hM.1 2 (lv1 := [some (aR 18), some (aI x.1), some (aI x.2.1)]) (s1 := [aI 5, aI x.2.1]) (h1 := x.2.2) rfl ?_
      refine A_icmp hM.1 rfl rfl (fun hc => ?_) (fun hc => ?_)
      · replace hh := OK_t hh hc
        refine A_blk hM.1 4 (lv1 := [some (aR 18), some (aI x.1), some (aI x.2.1)]) (s1 := [aR 18, aI (x.1 * 10)]) (h1 := x.2.2) rfl ?_
        refine A_callV hM rfl rfl (mem_GW 727 (by decide +kernel) rfl) mi_X6_next (As := []) (rest := [aI (x.1 * 10)]) (ct_X6_next x.2.2 (OK_bind hh)) (by decide) ⟨Nat.zero_le _, Nat.zero_le _⟩ rfl rfl (Nat.le_of_ble_eq_true rfl) (by decide) rfl (by decide) rfl (fun r F' h' hq1 => ?_)
        obtain ⟨rfl, r3, rfl, e9, hh⟩ := hq1
        subst h'
        refine A_blk hM.1 11 (lv1 := [some (aR 18), some (aI (((x.1 * 10) + r3) - 48)), some (aI (x.2.1 + 1))]) (s1 := []) (h1 := setH x.2.2 18 3 ((x.2.2 18 3) + 1)) rfl ?_
        refine A_go hM.1 rfl rfl ?_
        exact hin (((x.1 * 10) + r3) - 48, x.2.1 + 1, setH x.2.2 18 3 ((x.2.2 18 3) + 1)) hh
      · replace hh := OK_f hh hc
        refine A_mask [true, false, false] (lv1 := [some (aR 18), none, none]) rfl ?_
        exact hout0 x.2.2 hh

set_option maxRecDepth 20000 in
set_option maxHeartbeats 4000000 in
theorem c_X6_readNumber {k0 : K0} {G : Gx} {Qp : Option AV → Fx → Hp → Prop} (hM : MB (KM k0 0 0 Qp) G M_X6_readNumber 3) (h : Hp)   {P : Hp → Prop} (hq : ∀ z : Hp, P z → Qp none FN z) (hh : OK (X6_readNumber h) P) : ATk (KM k0 0 0 Qp) FN 0 0 M_X6_readNumber 0 [some (aR 18), none, none] [] h := by
  unfold X6_readNumber at hh
  refine A_blk hM.1 4 (lv1 := [some (aR 18), some (aI 0), some (aI 0)]) (s1 := []) (h1 := h) rfl ?_
  refine iter_ok (s := (0, 0, h)) (Gp := fun z => ATk (KM k0 0 0 Qp) FN 0 0 M_X6_readNumber 4 [some (aR 18), some (aI z.1), some (aI z.2.1)] [] z.2.2) (E := fun z => (∀ y, z = (.inl y) → ATk (KM k0 0 0 Qp) FN 0 0 M_X6_readNumber 16 [some (aR 18), none, none] [] y) ∧ (∀ y, z = (.inr y) → ATk (KM k0 0 0 Qp) FN 0 0 M_X6_readNumber 37 [some (aR 18), some (aI y.1), none] [] y.2)) (fun z P1 g1 g2 g3 => c_X6_readNumber_l4 hM  z g2 (fun y hy => (g3 (.inl y) hy).1 y rfl) (fun y hy => (g3 (.inr y) hy).2 y rfl) g1) (OK_bind hh) (fun x4 hh => ?_)
  refine ⟨fun y e => ?_, fun y e => ?_⟩
  · obtain ⟨y5, rfl⟩ : ∃ z, z = y := ⟨_, rfl⟩
    subst e
    refine A_blk hM.1 2 (lv1 := [some (aR 18), none, none]) (s1 := [aI 2, aR 18]) (h1 := y5) rfl ?_
    refine A_callV hM rfl rfl (mem_GW 818 (by decide +kernel) rfl) mi_X6_blame (As := [aI 2]) (rest := []) (ct_X6_blame 2 y5 (OK_bind hh)) (by decide) ⟨Nat.zero_le _, Nat.zero_le _⟩ rfl rfl (Nat.le_of_ble_eq_true rfl) (by decide) rfl (by decide) rfl (fun r F' h' hq1 => ?_)
    obtain ⟨rfl, rfl, hh⟩ := hq1
    obtain ⟨r6, rfl⟩ : ∃ z, z = h' := ⟨_, rfl⟩
    exact A_retv hM.1 rfl rfl rfl (hq r6 hh)
  · obtain ⟨y7, rfl⟩ : ∃ z, z = y := ⟨_, rfl⟩
    subst e
    refine A_blk hM.1 4 (lv1 := [some (aR 18), some (aI y7.1), none]) (s1 := [aI y7.1, aI 1, aR 19]) (h1 := y7.2) rfl ?_
    refine A_callV hM rfl rfl (mem_GW 851 (by decide +kernel) rfl) mi_X10_add (As := [aI 1, aI y7.1]) (rest := []) (ct_X10_add 19 1 y7.1 y7.2 (by decide) (OK_bind hh)) (by decide) ⟨Nat.zero_le _, Nat.zero_le _⟩ rfl rfl (Nat.le_of_ble_eq_true rfl) (by decide) rfl (by decide) rfl (fun r F' h' hq1 => ?_)
    obtain ⟨rfl, rfl, hh⟩ := hq1
    obtain ⟨r8, rfl⟩ : ∃ z, z = h' := ⟨_, rfl⟩
    exact A_retv hM.1 rfl rfl rfl (hq r8 hh)

set_option maxRecDepth 20000 in
set_option maxHeartbeats 4000000 in
theorem ct_X6_readNumber {G : Gx} (h : Hp)   {P : Hp → Prop} (hh : OK (X6_readNumber h) P) : CT G yX6_readNumber M_X6_readNumber 3 0 0 FN h [aR 18] (fun r F' h' => F' = FN ∧ r = none ∧ P h') :=
  CT.of (by decide +kernel) rfl (Nat.le_of_ble_eq_true rfl) k_X6_readNumber fun k0 _ _ hM => c_X6_readNumber hM h (fun z hz => ⟨rfl, rfl, hz⟩) hh

theorem mi_X6_readFactor : MIv yX6_readFactor M_X6_readFactor 1 := ⟨⟨(mem_GW 837 (by decide +kernel) rfl), (mem_GW 126 (by decide +kernel) rfl), by decide +kernel, by decide +kernel, by decide +kernel, by decide⟩, (mem_GW 836 (by decide +kernel) rfl), (mem_GW 10 (by decide +kernel) rfl)⟩
theorem mi_X6_readTerm : MIv yX6_readTerm M_X6_readTerm 1 := ⟨⟨(mem_GW 833 (by decide +kernel) rfl), (mem_GW 126 (by decide +kernel) rfl), by decide +kernel, by decide +kernel, by decide +kernel, by decide⟩, (mem_GW 832 (by decide +kernel) rfl), (mem_GW 9 (by decide +kernel) rfl)⟩
theorem mi_X6_readSum : MIv yX6_readSum M_X6_readSum 1 := ⟨⟨(mem_GW 829 (by decide +kernel) rfl), (mem_GW 126 (by decide +kernel) rfl), by decide +kernel, by decide +kernel, by decide +kernel, by decide⟩, (mem_GW 828 (by decide +kernel) rfl), (mem_GW 8 (by decide +kernel) rfl)⟩
def RC49 (G : Gx) (tag d : Nat) (v : Int) (h : Hp) (P : Hp → Prop) : Prop := match tag with
  | 0 => CT G yX6_readFactor M_X6_readFactor d 0 0 FN h [aR 18, aI v] (fun r F' h' => F' = FN ∧ r = none ∧ P h')
  | 1 => CT G yX6_readTerm M_X6_readTerm d 0 0 FN h [aR 18, aI v] (fun r F' h' => F' = FN ∧ r = none ∧ P h')
  | _ => CT G yX6_readSum M_X6_readSum d 0 0 FN h [aR 18, aI v] (fun r F' h' => F' = FN ∧ r = none ∧ P h')
set_option maxRecDepth 20000 in
set_option maxHeartbeats 4000000 in
theorem c_X6_readFactor {d : Nat} {k0 : K0} {G : Gx} {Qp : Option AV → Fx → Hp → Prop} (hM : MB (KM k0 0 0 Qp) G M_X6_readFactor (d + 1)) (rec : Nat → Int → Hp → Option Hp) (v1 : Int) (h : Hp)  (hrec : ∀ (tag : Nat) (v : Int) (h : Hp) (P : Hp → Prop), OK (rec tag v h) P → RC49 G tag d v h P) (hd : 7 ≤ d) {P : Hp → Prop} (hq : ∀ z : Hp, P z → Qp none FN z) (hh : OK (X6_readFactor rec v1 h) P) : ATk (KM k0 0 0 Qp) FN 0 0 M_X6_readFactor 0 [some (aR 18), some (aI v1), none] [] h := by
  unfold X6_readFactor at hh
  refine A_blk hM.1 2 (lv1 := [some (aR 18), some (aI v1), none]) (s1 := [aI (h 18 4)]) (h1 := h) rfl ?_
  refine A_ifc hM.1 rfl rfl (fun hc => ?_) (fun hc => ?_)
  · replace hh := OK_t hh hc
    refine A_blk hM.1 1 (lv1 := [some (aR 18), some (aI v1), none]) (s1 := [aR 18]) (h1 := h) rfl ?_
    refine A_callV hM rfl rfl (mem_GW 727 (by decide +kernel) rfl) mi_X6_next (As := []) (rest := []) (ct_X6_next h (OK_bind hh)) (by omega) ⟨Nat.zero_le _, Nat.zero_le _⟩ rfl rfl (Nat.le_of_ble_eq_true rfl) (by decide) rfl (by decide) rfl (fun r F' h' hq1 => ?_)
    obtain ⟨rfl, r1, rfl, e9, hh⟩ := hq1
    subst h'
    refine A_blk hM.1 3 (lv1 := [some (aR 18), some (aI v1), some (aI r1)]) (s1 := [aI 91, aI r1]) (h1 := h) rfl ?_
    refine A_icmp hM.1 rfl rfl (fun hc => ?_) (fun hc => ?_)
    · replace hh := OK_t hh hc
      refine A_blk hM.1 3 (lv1 := [some (aR 18), some (aI v1), some (aI r1)]) (s1 := [aI 57, aI 48, aI r1]) (h1 := h) rfl ?_
      refine A_callSN (host := "QuotedBooks") hM rfl rfl (mem_NW 846 (by decide +kernel) rfl) mi_X11_within ms_X11_within (As := [aI r1, aI 48, aI 57]) (rest := []) (ct_X11_within r1 48 57 h (OK_bind hh)) (by omega) ⟨Nat.zero_le _, Nat.zero_le _⟩ rfl rfl (Nat.le_of_ble_eq_true rfl) (fun r F' h' hq1 => ?_)
      obtain ⟨rfl, r2, rfl, e9, hh⟩ := hq1
      subst h'
      refine A_ifc hM.1 rfl rfl (fun hc => ?_) (fun hc => ?_)
      · replace hh := OK_t hh hc
        refine A_blk hM.1 1 (lv1 := [some (aR 18), some (aI v1), some (aI r1)]) (s1 := [aR 18]) (h1 := h) rfl ?_
        refine A_ldcs hM.1 rfl rfl (j := 1) (by decide) rfl rfl ?_
        refine A_callV hM rfl rfl (mem_GW 723 (by decide +kernel) rfl) mi_X6_nextIsOf (As := [aR 1001]) (rest := []) (ct_X6_nextIsOf 1 h (by decide) (OK_bind hh)) (by omega) ⟨Nat.zero_le _, Nat.zero_le _⟩ rfl rfl (Nat.le_of_ble_eq_true rfl) (by decide) rfl (by decide) rfl (fun r F' h' hq1 => ?_)
        obtain ⟨rfl, r3, rfl, e9, hh⟩ := hq1
        subst h'
        refine A_ifc hM.1 rfl rfl (fun hc => ?_) (fun hc => ?_)
        · replace hh := OK_t hh hc
          refine A_blk hM.1 2 (lv1 := [some (aR 18), some (aI v1), some (aI r1)]) (s1 := [aI 1, aR 18]) (h1 := h) rfl ?_
          refine A_callV hM rfl rfl (mem_GW 818 (by decide +kernel) rfl) mi_X6_blame (As := [aI 1]) (rest := []) (ct_X6_blame 1 h (OK_bind hh)) (by omega) ⟨Nat.zero_le _, Nat.zero_le _⟩ rfl rfl (Nat.le_of_ble_eq_true rfl) (by decide) rfl (by decide) rfl (fun r F' h' hq1 => ?_)
          obtain ⟨rfl, rfl, hh⟩ := hq1
          obtain ⟨r4, rfl⟩ : ∃ z, z = h' := ⟨_, rfl⟩
          exact A_retv hM.1 rfl rfl rfl (hq r4 hh)
        · replace hh := OK_f hh hc
          refine A_blk hM.1 6 (lv1 := [some (aR 18), some (aI v1), some (aI r1)]) (s1 := [aI (r1 - 97), aI 2, aR 19]) (h1 := h) rfl ?_
          refine A_callV hM rfl rfl (mem_GW 851 (by decide +kernel) rfl) mi_X10_add (As := [aI 2, aI (r1 - 97)]) (rest := []) (ct_X10_add 19 2 (r1 - 97) h (by decide) (OK_bind hh)) (by omega) ⟨Nat.zero_le _, Nat.zero_le _⟩ rfl rfl (Nat.le_of_ble_eq_true rfl) (by decide) rfl (by decide) rfl (fun r F' h' hq1 => ?_)
          obtain ⟨rfl, rfl, hh⟩ := hq1
          obtain ⟨r5, rfl⟩ : ∃ z, z = h' := ⟨_, rfl⟩
          refine A_blk hM.1 6 (lv1 := [some (aR 18), some (aI v1), some (aI r1)]) (s1 := []) (h1 := setH r5 18 3 ((r5 18 3) + 1)) rfl ?_
          refine A_go hM.1 rfl rfl ?_
          exact A_retv hM.1 rfl rfl rfl (hq (setH r5 18 3 ((r5 18 3) + 1)) hh)
      · replace hh := OK_f hh hc
        refine A_blk hM.1 1 (lv1 := [some (aR 18), some (aI v1), some (aI r1)]) (s1 := [aR 18]) (h1 := h) rfl ?_
        refine A_callV hM rfl rfl (mem_GW 847 (by decide +kernel) rfl) mi_X6_readNumber (As := []) (rest := []) (ct_X6_readNumber h (OK_bind hh)) (by omega) ⟨Nat.zero_le _, Nat.zero_le _⟩ rfl rfl (Nat.le_of_ble_eq_true rfl) (by decide) rfl (by decide) rfl (fun r F' h' hq1 => ?_)
        obtain ⟨rfl, rfl, hh⟩ := hq1
        obtain ⟨r6, rfl⟩ : ∃ z, z = h' := ⟨_, rfl⟩
        refine A_go hM.1 rfl rfl ?_
        exact A_retv hM.1 rfl rfl rfl (hq r6 hh)
    · replace hh := OK_f hh hc
      refine A_blk hM.1 4 (lv1 := [some (aR 18), some (aI v1), some (aI r1)]) (s1 := [aI (v1 + 1), aR 18]) (h1 := h) rfl ?_
      refine A_callV hM rfl rfl (mem_GW 838 (by decide +kernel) rfl) mi_X6_opens (As := [aI (v1 + 1)]) (rest := []) (ct_X6_opens (v1 + 1) h (OK_bind hh)) (by omega) ⟨Nat.zero_le _, Nat.zero_le _⟩ rfl rfl (Nat.le_of_ble_eq_true rfl) (by decide) rfl (by decide) rfl (fun r F' h' hq1 => ?_)
      obtain ⟨rfl, r7, rfl, e9, hh⟩ := hq1
      subst h'
      refine A_ifc hM.1 rfl rfl (fun hc => ?_) (fun hc => ?_)
      · replace hh := OK_t hh hc
        exact A_retv hM.1 rfl rfl rfl (hq r7.2 hh)
      · replace hh := OK_f hh hc
        refine A_blk hM.1 4 (lv1 := [some (aR 18), some (aI v1), some (aI r1)]) (s1 := [aI (v1 + 1), aR 18]) (h1 := r7.2) rfl ?_
        refine A_callV hM rfl rfl (mem_GW 826 (by decide +kernel) rfl) mi_X6_readSum (As := [aI (v1 + 1)]) (rest := []) (hrec 2 _ _ _ (OK_bind hh)) (Nat.lt_succ_self _) ⟨Nat.zero_le _, Nat.zero_le _⟩ rfl rfl (Nat.le_of_ble_eq_true rfl) (by decide) rfl (by decide) rfl (fun r F' h' hq1 => ?_)
        obtain ⟨rfl, rfl, hh⟩ := hq1
        obtain ⟨r8, rfl⟩ : ∃ z, z = h' := ⟨_, rfl⟩
        refine A_blk hM.1 2 (lv1 := [some (aR 18), some (aI v1), some (aI r1)]) (s1 := [aI 93, aR 18]) (h1 := r8) rfl ?_
        refine A_callV hM rfl rfl (mem_GW 842 (by decide +kernel) rfl) mi_X6_expect (As := [aI 93]) (rest := []) (ct_X6_expect 93 r8 (OK_bind hh)) (by omega) ⟨Nat.zero_le _, Nat.zero_le _⟩ rfl rfl (Nat.le_of_ble_eq_true rfl) (by decide) rfl (by decide) rfl (fun r F' h' hq1 => ?_)
        obtain ⟨rfl, rfl, hh⟩ := hq1
        obtain ⟨r9, rfl⟩ : ∃ z, z = h' := ⟨_, rfl⟩
        refine A_go hM.1 rfl rfl ?_
        exact A_retv hM.1 rfl rfl rfl (hq r9 hh)
  · replace hh := OK_f hh hc
    exact A_retv hM.1 rfl rfl rfl (hq h hh)

set_option maxRecDepth 20000 in
set_option maxHeartbeats 4000000 in
theorem ct_X6_readFactor {d : Nat} {G : Gx} (rec : Nat → Int → Hp → Option Hp) (v1 : Int) (h : Hp)  (hrec : ∀ (tag : Nat) (v : Int) (h : Hp) (P : Hp → Prop), OK (rec tag v h) P → RC49 G tag d v h P) (hd : 7 ≤ d) {P : Hp → Prop} (hh : OK (X6_readFactor rec v1 h) P) : CT G yX6_readFactor M_X6_readFactor (d + 1) 0 0 FN h [aR 18, aI v1] (fun r F' h' => F' = FN ∧ r = none ∧ P h') :=
  CT.of (by decide +kernel) rfl (Nat.le_of_ble_eq_true rfl) k_X6_readFactor fun k0 _ _ hM => c_X6_readFactor hM rec v1 h hrec hd (fun z hz => ⟨rfl, rfl, hz⟩) hh
set_option maxRecDepth 20000 in
set_option maxHeartbeats 4000000 in
theorem c_X6_readTerm_l5 {d : Nat} {k0 : K0} {G : Gx} {Qp : Option AV → Fx → Hp → Prop} (hM : MB (KM k0 0 0 Qp) G M_X6_readTerm (d + 1)) (rec : Nat → Int → Hp → Option Hp) (v1 : Int) (x : Int × Hp)  (hrec : ∀ (tag : Nat) (v : Int) (h : Hp) (P : Hp → Prop), OK (rec tag v h) P → RC49 G tag d v h P) (hd : 7 ≤ d) {P : ((Int × Hp) ⊕ (Hp)) → Prop} (hin : ∀ y : Int × Hp, P (.inl y) → ATk (KM k0 0 0 Qp) FN 0 0 M_X6_readTerm 5 [some (aR 18), some (aI v1), some (aI y.1), none] [] y.2) (hout0 : ∀ y : Hp, P (.inr y) → ATk (KM k0 0 0 Qp) FN 0 0 M_X6_readTerm 31 [none, none, none, none] [] y) (hh : OK (X6_readTerm_l5 rec v1 x) P) : ATk (KM k0 0 0 Qp) FN 0 0 M_X6_readTerm 5 [some (aR 18), some (aI v1), some (aI x.1), none] [] x.2 := by
  unfold X6_readTerm_l5 at hh
  refine A_blk hM.1 2 (lv1 := [some (aR 18), some (aI v1), some (aI x.1), none]) (s1 := [aI 160, aI x.1]) (h1 := x.2) rfl ?_
  refine A_icmp hM.1 rfl rfl (fun hc => ?_) (fun hc => ?_)
  · replace hh := OK_t hh hc
    refine A_mask [false, false, false, true] (lv1 := [none, none, none, none]) rfl ?_
    exact hout0 x.2 hh
  · replace hh := OK_f hh hc
    refine A_blk hM.1 1 (lv1 := [some (aR 18), some (aI v1), some (aI x.1), none]) (s1 := [aR 18]) (h1 := x.2) rfl ?_
    refine A_ldcs hM.1 rfl rfl (j := 2) (by decide) rfl rfl ?_
    refine A_callV hM rfl rfl (mem_GW 723 (by decide +kernel) rfl) mi_X6_nextIsOf (As := [aR 1002]) (rest := []) (ct_X6_nextIsOf 2 x.2 (by decide) (OK_bind hh)) (by omega) ⟨Nat.zero_le _, Nat.zero_le _⟩ rfl rfl (Nat.le_of_ble_eq_true rfl) (by decide) rfl (by decide) rfl (fun r F' h' hq1 => ?_)
    obtain ⟨rfl, r2, rfl, e9, hh⟩ := hq1
    subst h'
    refine A_ifc hM.1 rfl rfl (fun hc => ?_) (fun hc => ?_)
    · replace hh := OK_t hh hc
      refine A_mask [false, false, false, true] (lv1 := [none, none, none, none]) rfl ?_
      exact hout0 x.2 hh
    · replace hh := OK_f hh hc
      refine A_blk hM.1 1 (lv1 := [some (aR 18), some (aI v1), some (aI x.1), none]) (s1 := [aR 18]) (h1 := x.2) rfl ?_
      refine A_callV hM rfl rfl (mem_GW 727 (by decide +kernel) rfl) mi_X6_next (As := []) (rest := []) (ct_X6_next x.2 (OK_bind hh)) (by omega) ⟨Nat.zero_le _, Nat.zero_le _⟩ rfl rfl (Nat.le_of_ble_eq_true rfl) (by decide) rfl (by decide) rfl (fun r F' h' hq1 => ?_)
      obtain ⟨rfl, r3, rfl, e9, hh⟩ := hq1
      subst h'
      refine A_blk hM.1 9 (lv1 := [some (aR 18), some (aI v1), some (aI x.1), some (aI r3)]) (s1 := [aI v1, aR 18]) (h1 := setH x.2 18 3 ((x.2 18 3) + 1)) rfl ?_
      refine A_callV hM rfl rfl (mem_GW 834 (by decide +kernel) rfl) mi_X6_readFactor (As := [aI v1]) (rest := []) (hrec 0 _ _ _ (OK_bind hh)) (Nat.lt_succ_self _) ⟨Nat.zero_le _, Nat.zero_le _⟩ rfl rfl (Nat.le_of_ble_eq_true rfl) (by decide) rfl (by decide) rfl (fun r F' h' hq1 => ?_)
      obtain ⟨rfl, rfl, hh⟩ := hq1
      obtain ⟨r4, rfl⟩ : ∃ z, z = h' := ⟨_, rfl⟩
      refine A_blk hM.1 4 (lv1 := [some (aR 18), some (aI v1), some (aI x.1), some (aI r3)]) (s1 := [aI 0, aI r3, aR 19]) (h1 := r4) rfl ?_
      refine A_callV hM rfl rfl (mem_GW 851 (by decide +kernel) rfl) mi_X10_add (As := [aI r3, aI 0]) (rest := []) (ct_X10_add 19 r3 0 r4 (by decide) (OK_bind hh)) (by omega) ⟨Nat.zero_le _, Nat.zero_le _⟩ rfl rfl (Nat.le_of_ble_eq_true rfl) (by decide) rfl (by decide) rfl (fun r F' h' hq1 => ?_)
      obtain ⟨rfl, rfl, hh⟩ := hq1
      obtain ⟨r5, rfl⟩ : ∃ z, z = h' := ⟨_, rfl⟩
      refine A_blk hM.1 1 (lv1 := [some (aR 18), some (aI v1), some (aI (x.1 + 1)), some (aI r3)]) (s1 := []) (h1 := r5) rfl ?_
      refine A_go hM.1 rfl rfl ?_
      refine A_mask [true, true, true, false] (lv1 := [some (aR 18), some (aI v1), some (aI (x.1 + 1)), none]) rfl ?_
      exact hin (x.1 + 1, r5) hh

set_option maxRecDepth 20000 in
set_option maxHeartbeats 4000000 in
theorem c_X6_readTerm {d : Nat} {k0 : K0} {G : Gx} {Qp : Option AV → Fx → Hp → Prop} (hM : MB (KM k0 0 0 Qp) G M_X6_readTerm (d + 1)) (rec : Nat → Int → Hp → Option Hp) (v1 : Int) (h : Hp)  (hrec : ∀ (tag : Nat) (v : Int) (h : Hp) (P : Hp → Prop), OK (rec tag v h) P → RC49 G tag d v h P) (hd : 7 ≤ d) {P : Hp → Prop} (hq : ∀ z : Hp, P z → Qp none FN z) (hh : OK (X6_readTerm rec v1 h) P) : ATk (KM k0 0 0 Qp) FN 0 0 M_X6_readTerm 0 [some (aR 18), some (aI v1), none, none] [] h := by
  unfold X6_readTerm at hh
  refine A_blk hM.1 2 (lv1 := [some (aR 18), some (aI v1), none, none]) (s1 := [aI v1, aR 18]) (h1 := h) rfl ?_
  refine A_callV hM rfl rfl (mem_GW 834 (by decide +kernel) rfl) mi_X6_readFactor (As := [aI v1]) (rest := []) (hrec 0 _ _ _ (OK_bind hh)) (Nat.lt_succ_self _) ⟨Nat.zero_le _, Nat.zero_le _⟩ rfl rfl (Nat.le_of_ble_eq_true rfl) (by decide) rfl (by decide) rfl (fun r F' h' hq1 => ?_)
  obtain ⟨rfl, rfl, hh⟩ := hq1
  obtain ⟨r1, rfl⟩ : ∃ z, z = h' := ⟨_, rfl⟩
  refine A_blk hM.1 2 (lv1 := [some (aR 18), some (aI v1), some (aI 0), none]) (s1 := []) (h1 := r1) rfl ?_
  refine iter_ok (s := (0, r1)) (Gp := fun z => ATk (KM k0 0 0 Qp) FN 0 0 M_X6_readTerm 5 [some (aR 18), some (aI v1), some (aI z.1), none] [] z.2) (E := fun z => ATk (KM k0 0 0 Qp) FN 0 0 M_X6_readTerm 31 [none, none, none, none] [] z) (fun z P1 g1 g2 g3 => c_X6_readTerm_l5 hM rec v1 z hrec hd g2 g3 g1) (OK_bind hh) (fun x6 hh => ?_)
  exact A_retv hM.1 rfl rfl rfl (hq x6 hh)

set_option maxRecDepth 20000 in
set_option maxHeartbeats 4000000 in
theorem ct_X6_readTerm {d : Nat} {G : Gx} (rec : Nat → Int → Hp → Option Hp) (v1 : Int) (h : Hp)  (hrec : ∀ (tag : Nat) (v : Int) (h : Hp) (P : Hp → Prop), OK (rec tag v h) P → RC49 G tag d v h P) (hd : 7 ≤ d) {P : Hp → Prop} (hh : OK (X6_readTerm rec v1 h) P) : CT G yX6_readTerm M_X6_readTerm (d + 1) 0 0 FN h [aR 18, aI v1] (fun r F' h' => F' = FN ∧ r = none ∧ P h') :=
  CT.of (by decide +kernel) rfl (Nat.le_of_ble_eq_true rfl) k_X6_readTerm fun k0 _ _ hM => c_X6_readTerm hM rec v1 h hrec hd (fun z hz => ⟨rfl, rfl, hz⟩) hh
set_option maxRecDepth 20000 in
set_option maxHeartbeats 4000000 in
theorem c_X6_readSum_l5 {d : Nat} {k0 : K0} {G : Gx} {Qp : Option AV → Fx → Hp → Prop} (hM : MB (KM k0 0 0 Qp) G M_X6_readSum (d + 1)) (rec : Nat → Int → Hp → Option Hp) (v1 : Int) (x : Int × Hp)  (hrec : ∀ (tag : Nat) (v : Int) (h : Hp) (P : Hp → Prop), OK (rec tag v h) P → RC49 G tag d v h P) (hd : 7 ≤ d) {P : ((Int × Hp) ⊕ (Hp)) → Prop} (hin : ∀ y : Int × Hp, P (.inl y) → ATk (KM k0 0 0 Qp) FN 0 0 M_X6_readSum 5 [some (aR 18), some (aI v1), some (aI y.1), none] [] y.2) (hout0 : ∀ y : Hp, P (.inr y) → ATk (KM k0 0 0 Qp) FN 0 0 M_X6_readSum 31 [none, none, none, none] [] y) (hh : OK (X6_readSum_l5 rec v1 x) P) : ATk (KM k0 0 0 Qp) FN 0 0 M_X6_readSum 5 [some (aR 18), some (aI v1), some (aI x.1), none] [] x.2 := by
  unfold X6_readSum_l5 at hh
  refine A_blk hM.1 2 (lv1 := [some (aR 18), some (aI v1), some (aI x.1), none]) (s1 := [aI 160, aI x.1]) (h1 := x.2) rfl ?_
  refine A_icmp hM.1 rfl rfl (fun hc => ?_) (fun hc => ?_)
  · replace hh := OK_t hh hc
    refine A_mask [false, false, false, true] (lv1 := [none, none, none, none]) rfl ?_
    exact hout0 x.2 hh
  · replace hh := OK_f hh hc
    refine A_blk hM.1 1 (lv1 := [some (aR 18), some (aI v1), some (aI x.1), none]) (s1 := [aR 18]) (h1 := x.2) rfl ?_
    refine A_ldcs hM.1 rfl rfl (j := 3) (by decide) rfl rfl ?_
    refine A_callV hM rfl rfl (mem_GW 723 (by decide +kernel) rfl) mi_X6_nextIsOf (As := [aR 1003]) (rest := []) (ct_X6_nextIsOf 3 x.2 (by decide) (OK_bind hh)) (by omega) ⟨Nat.zero_le _, Nat.zero_le _⟩ rfl rfl (Nat.le_of_ble_eq_true rfl) (by decide) rfl (by decide) rfl (fun r F' h' hq1 => ?_)
    obtain ⟨rfl, r2, rfl, e9, hh⟩ := hq1
    subst h'
    refine A_ifc hM.1 rfl rfl (fun hc => ?_) (fun hc => ?_)
    · replace hh := OK_t hh hc
      refine A_mask [false, false, false, true] (lv1 := [none, none, none, none]) rfl ?_
      exact hout0 x.2 hh
    · replace hh := OK_f hh hc
      refine A_blk hM.1 1 (lv1 := [some (aR 18), some (aI v1), some (aI x.1), none]) (s1 := [aR 18]) (h1 := x.2) rfl ?_
      refine A_callV hM rfl rfl (mem_GW 727 (by decide +kernel) rfl) mi_X6_next (As := []) (rest := []) (ct_X6_next x.2 (OK_bind hh)) (by omega) ⟨Nat.zero_le _, Nat.zero_le _⟩ rfl rfl (Nat.le_of_ble_eq_true rfl) (by decide) rfl (by decide) rfl (fun r F' h' hq1 => ?_)
      obtain ⟨rfl, r3, rfl, e9, hh⟩ := hq1
      subst h'
      refine A_blk hM.1 9 (lv1 := [some (aR 18), some (aI v1), some (aI x.1), some (aI r3)]) (s1 := [aI v1, aR 18]) (h1 := setH x.2 18 3 ((x.2 18 3) + 1)) rfl ?_
      refine A_callV hM rfl rfl (mem_GW 830 (by decide +kernel) rfl) mi_X6_readTerm (As := [aI v1]) (rest := []) (hrec 1 _ _ _ (OK_bind hh)) (Nat.lt_succ_self _) ⟨Nat.zero_le _, Nat.zero_le _⟩ rfl rfl (Nat.le_of_ble_eq_true rfl) (by decide) rfl (by decide) rfl (fun r F' h' hq1 => ?_)
      obtain ⟨rfl, rfl, hh⟩ := hq1
      obtain ⟨r4, rfl⟩ : ∃ z, z = h' := ⟨_, rfl⟩
      refine A_blk hM.1 4 (lv1 := [some (aR 18), some (aI v1), some (aI x.1), some (aI r3)]) (s1 := [aI 0, aI r3, aR 19]) (h1 := r4) rfl ?_
      refine A_callV hM rfl rfl (mem_GW 851 (by decide +kernel) rfl) mi_X10_add (As := [aI r3, aI 0]) (rest := []) (ct_X10_add 19 r3 0 r4 (by decide) (OK_bind hh)) (by omega) ⟨Nat.zero_le _, Nat.zero_le _⟩ rfl rfl (Nat.le_of_ble_eq_true rfl) (by decide) rfl (by decide) rfl (fun r F' h' hq1 => ?_)
      obtain ⟨rfl, rfl, hh⟩ := hq1
      obtain ⟨r5, rfl⟩ : ∃ z, z = h' := ⟨_, rfl⟩
      refine A_blk hM.1 1 (lv1 := [some (aR 18), some (aI v1), some (aI (x.1 + 1)), some (aI r3)]) (s1 := []) (h1 := r5) rfl ?_
      refine A_go hM.1 rfl rfl ?_
      refine A_mask [true, true, true, false] (lv1 := [some (aR 18), some (aI v1), some (aI (x.1 + 1)), none]) rfl ?_
      exact hin (x.1 + 1, r5) hh

set_option maxRecDepth 20000 in
set_option maxHeartbeats 4000000 in
theorem c_X6_readSum {d : Nat} {k0 : K0} {G : Gx} {Qp : Option AV → Fx → Hp → Prop} (hM : MB (KM k0 0 0 Qp) G M_X6_readSum (d + 1)) (rec : Nat → Int → Hp → Option Hp) (v1 : Int) (h : Hp)  (hrec : ∀ (tag : Nat) (v : Int) (h : Hp) (P : Hp → Prop), OK (rec tag v h) P → RC49 G tag d v h P) (hd : 7 ≤ d) {P : Hp → Prop} (hq : ∀ z : Hp, P z → Qp none FN z) (hh : OK (X6_readSum rec v1 h) P) : ATk (KM k0 0 0 Qp) FN 0 0 M_X6_readSum 0 [some (aR 18), some (aI v1), none, none] [] h := by
  unfold X6_readSum at hh
  refine A_blk hM.1 2 (lv1 := [some (aR 18), some (aI v1), none, none]) (s1 := [aI v1, aR 18]) (h1 := h) rfl ?_
  refine A_callV hM rfl rfl (mem_GW 830 (by decide +kernel) rfl) mi_X6_readTerm (As := [aI v1]) (rest := []) (hrec 1 _ _ _ (OK_bind hh)) (Nat.lt_succ_self _) ⟨Nat.zero_le _, Nat.zero_le _⟩ rfl rfl (Nat.le_of_ble_eq_true rfl) (by decide) rfl (by decide) rfl (fun r F' h' hq1 => ?_)
  obtain ⟨rfl, rfl, hh⟩ := hq1
  obtain ⟨r1, rfl⟩ : ∃ z, z = h' := ⟨_, rfl⟩
  refine A_blk hM.1 2 (lv1 := [some (aR 18), some (aI v1), some (aI 0), none]) (s1 := []) (h1 := r1) rfl ?_
  refine iter_ok (s := (0, r1)) (Gp := fun z => ATk (KM k0 0 0 Qp) FN 0 0 M_X6_readSum 5 [some (aR 18), some (aI v1), some (aI z.1), none] [] z.2) (E := fun z => ATk (KM k0 0 0 Qp) FN 0 0 M_X6_readSum 31 [none, none, none, none] [] z) (fun z P1 g1 g2 g3 => c_X6_readSum_l5 hM rec v1 z hrec hd g2 g3 g1) (OK_bind hh) (fun x6 hh => ?_)
  exact A_retv hM.1 rfl rfl rfl (hq x6 hh)

set_option maxRecDepth 20000 in
set_option maxHeartbeats 4000000 in
theorem ct_X6_readSum {d : Nat} {G : Gx} (rec : Nat → Int → Hp → Option Hp) (v1 : Int) (h : Hp)  (hrec : ∀ (tag : Nat) (v : Int) (h : Hp) (P : Hp → Prop), OK (rec tag v h) P → RC49 G tag d v h P) (hd : 7 ≤ d) {P : Hp → Prop} (hh : OK (X6_readSum rec v1 h) P) : CT G yX6_readSum M_X6_readSum (d + 1) 0 0 FN h [aR 18, aI v1] (fun r F' h' => F' = FN ∧ r = none ∧ P h') :=
  CT.of (by decide +kernel) rfl (Nat.le_of_ble_eq_true rfl) k_X6_readSum fun k0 _ _ hM => c_X6_readSum hM rec v1 h hrec hd (fun z hz => ⟨rfl, rfl, hz⟩) hh
theorem ct_Rec49 {G : Gx} : ∀ (n tag : Nat) (v : Int) (h : Hp) (P : Hp → Prop), OK (Rec49 n tag v h) P → RC49 G tag (n + 7) v h P
  | 0, _, _, _, _, hh => absurd hh (by simp [Rec49, OK])
  | n + 1, tag, v, h, P, hh => by
    have e : n + 1 + 7 = n + 7 + 1 := by omega
    rw [e]
    match tag, hh with
    | 0, hh => exact ct_X6_readFactor (d := n + 7) (Rec49 n) v h (ct_Rec49 n) (by omega) hh
    | 1, hh => exact ct_X6_readTerm (d := n + 7) (Rec49 n) v h (ct_Rec49 n) (by omega) hh
    | _ + 2, hh => exact ct_X6_readSum (d := n + 7) (Rec49 n) v h (ct_Rec49 n) (by omega) hh

theorem mi_X10_endValue : MIv yX10_endValue M_X10_endValue 1 := ⟨⟨(mem_GW 862 (by decide +kernel) rfl), (mem_GW 127 (by decide +kernel) rfl), by decide +kernel, by decide +kernel, by decide +kernel, by decide⟩, (mem_GW 860 (by decide +kernel) rfl), (mem_GW 861 (by decide +kernel) rfl)⟩
set_option maxRecDepth 20000 in
set_option maxHeartbeats 4000000 in
theorem c_X10_endValue {k0 : K0} {G : Gx} {Qp : Option AV → Fx → Hp → Prop} (hM : MB (KM k0 0 0 Qp) G M_X10_endValue 2) (t : Nat) (v1 : Int) (h : Hp)  (ht : t ∈ txL) {P : Hp → Prop} (hq : ∀ z : Hp, P z → Qp none FN z) (hh : OK (X10_endValue t v1 h) P) : ATk (KM k0 0 0 Qp) FN 0 0 M_X10_endValue 0 [some (aR t), some (aI v1)] [] h := by
  unfold X10_endValue at hh
  refine A_blk hM.1 1 (lv1 := [some (aR t), some (aI v1)]) (s1 := [aR t]) (h1 := h) rfl ?_
  refine A_gr hM.1 rfl rfl rfl (tx_k0 ht) (tx_l0 ht) (Nat.lt_trans (tx_l1 ht) NF_lt) (tx_r2 ht) rfl ?_
  refine A_blk hM.1 1 (lv1 := [some (aR t), some (aI v1)]) (s1 := [aR t, aR (t + 1)]) (h1 := h) rfl ?_
  refine A_gi hM.1 rfl rfl rfl (tx_k0 ht) (tx_l0 ht) rfl ?_
  refine A_blk hM.1 1 (lv1 := [some (aR t), some (aI v1)]) (s1 := [aI v1, aI (h t 0), aR (t + 1)]) (h1 := h) rfl ?_
  refine A_callSN (host := "QuotedBooks") hM rfl rfl (mem_NW 855 (by decide +kernel) rfl) mi_X11_put ms_X11_put (As := [aR (t + 1), aI (h t 0), aI v1]) (rest := []) (ct_X11_put (t + 1) 12 (h t 0) v1 h (tx_k1 ht) (tx_n1 ht) (OK_bind hh)) (by decide) ⟨Nat.zero_le _, Nat.zero_le _⟩ rfl rfl (Nat.le_of_ble_eq_true rfl) (fun r F' h' hq1 => ?_)
  obtain ⟨rfl, rfl, hh⟩ := hq1
  obtain ⟨r1, rfl⟩ : ∃ z, z = h' := ⟨_, rfl⟩
  refine A_blk hM.1 1 (lv1 := [some (aR t), some (aI v1)]) (s1 := [aR t]) (h1 := r1) rfl ?_
  refine A_gr hM.1 rfl rfl rfl (tx_k0 ht) (tx_l0 ht) (Nat.lt_trans (tx_l2 ht) NF_lt) (tx_r3 ht) rfl ?_
  refine A_blk hM.1 1 (lv1 := [some (aR t), some (aI v1)]) (s1 := [aR t, aR (t + 2)]) (h1 := r1) rfl ?_
  refine A_gi hM.1 rfl rfl rfl (tx_k0 ht) (tx_l0 ht) rfl ?_
  refine A_blk hM.1 1 (lv1 := [some (aR t), some (aI v1)]) (s1 := [aR t, aI (r1 t 0), aR (t + 2)]) (h1 := r1) rfl ?_
  refine A_gi hM.1 rfl rfl rfl (tx_k0 ht) (tx_l0 ht) rfl ?_
  refine A_callSN (host := "QuotedBooks") hM rfl rfl (mem_NW 855 (by decide +kernel) rfl) mi_X11_put ms_X11_put (As := [aR (t + 2), aI (r1 t 0), aI (r1 t 1)]) (rest := []) (ct_X11_put (t + 2) 12 (r1 t 0) (r1 t 1) r1 (tx_k2 ht) (tx_n2 ht) (OK_bind hh)) (by decide) ⟨Nat.zero_le _, Nat.zero_le _⟩ rfl rfl (Nat.le_of_ble_eq_true rfl) (fun r F' h' hq1 => ?_)
  obtain ⟨rfl, rfl, hh⟩ := hq1
  obtain ⟨r2, rfl⟩ : ∃ z, z = h' := ⟨_, rfl⟩
  exact A_retv hM.1 rfl rfl rfl (hq r2 hh)

set_option maxRecDepth 20000 in
set_option maxHeartbeats 4000000 in
theorem ct_X10_endValue {G : Gx} (t : Nat) (v1 : Int) (h : Hp)  (ht : t ∈ txL) {P : Hp → Prop} (hh : OK (X10_endValue t v1 h) P) : CT G yX10_endValue M_X10_endValue 2 0 0 FN h [aR t, aI v1] (fun r F' h' => F' = FN ∧ r = none ∧ P h') :=
  CT.of (by decide +kernel) rfl (Nat.le_of_ble_eq_true rfl) k_X10_endValue fun k0 _ _ hM => c_X10_endValue hM t v1 h ht (fun z hz => ⟨rfl, rfl, hz⟩) hh

theorem mi_X6_readComparison : MIv yX6_readComparison M_X6_readComparison 1 := ⟨⟨(mem_GW 878 (by decide +kernel) rfl), (mem_GW 126 (by decide +kernel) rfl), by decide +kernel, by decide +kernel, by decide +kernel, by decide⟩, (mem_GW 877 (by decide +kernel) rfl), (mem_GW 17 (by decide +kernel) rfl)⟩
set_option maxRecDepth 20000 in
set_option maxHeartbeats 4000000 in
theorem c_X6_readComparison {k0 : K0} {G : Gx} {Qp : Option AV → Fx → Hp → Prop} (hM : MB (KM k0 0 0 Qp) G M_X6_readComparison 68) (v1 : Int) (h : Hp)   {P : Hp → Prop} (hq : ∀ z : Hp, P z → Qp none FN z) (hh : OK (X6_readComparison v1 h) P) : ATk (KM k0 0 0 Qp) FN 0 0 M_X6_readComparison 0 [some (aR 18), some (aI v1), none] [] h := by
  unfold X6_readComparison at hh
  refine A_blk hM.1 2 (lv1 := [some (aR 18), some (aI v1), none]) (s1 := [aI v1, aR 18]) (h1 := h) rfl ?_
  refine A_callV hM rfl rfl (mem_GW 826 (by decide +kernel) rfl) mi_X6_readSum (As := [aI v1]) (rest := []) (ct_Rec49 FR 2 _ _ _ (OK_bind hh)) (by decide) ⟨Nat.zero_le _, Nat.zero_le _⟩ rfl rfl (Nat.le_of_ble_eq_true rfl) (by decide) rfl (by decide) rfl (fun r F' h' hq1 => ?_)
  obtain ⟨rfl, rfl, hh⟩ := hq1
  obtain ⟨r1, rfl⟩ : ∃ z, z = h' := ⟨_, rfl⟩
  refine A_blk hM.1 1 (lv1 := [some (aR 18), some (aI v1), none]) (s1 := [aR 18]) (h1 := r1) rfl ?_
  refine A_ldcs hM.1 rfl rfl (j := 4) (by decide) rfl rfl ?_
  refine A_callV hM rfl rfl (mem_GW 723 (by decide +kernel) rfl) mi_X6_nextIsOf (As := [aR 1004]) (rest := []) (ct_X6_nextIsOf 4 r1 (by decide) (OK_bind hh)) (by decide) ⟨Nat.zero_le _, Nat.zero_le _⟩ rfl rfl (Nat.le_of_ble_eq_true rfl) (by decide) rfl (by decide) rfl (fun r F' h' hq1 => ?_)
  obtain ⟨rfl, r2, rfl, e9, hh⟩ := hq1
  subst h'
  refine A_ifc hM.1 rfl rfl (fun hc => ?_) (fun hc => ?_)
  · replace hh := OK_t hh hc
    refine A_blk hM.1 1 (lv1 := [some (aR 18), some (aI v1), none]) (s1 := [aR 18]) (h1 := r1) rfl ?_
    refine A_callV hM rfl rfl (mem_GW 727 (by decide +kernel) rfl) mi_X6_next (As := []) (rest := []) (ct_X6_next r1 (OK_bind hh)) (by decide) ⟨Nat.zero_le _, Nat.zero_le _⟩ rfl rfl (Nat.le_of_ble_eq_true rfl) (by decide) rfl (by decide) rfl (fun r F' h' hq1 => ?_)
    obtain ⟨rfl, r3, rfl, e9, hh⟩ := hq1
    subst h'
    refine A_blk hM.1 9 (lv1 := [some (aR 18), some (aI v1), some (aI r3)]) (s1 := [aI v1, aR 18]) (h1 := setH r1 18 3 ((r1 18 3) + 1)) rfl ?_
    refine A_callV hM rfl rfl (mem_GW 826 (by decide +kernel) rfl) mi_X6_readSum (As := [aI v1]) (rest := []) (ct_Rec49 FR 2 _ _ _ (OK_bind hh)) (by decide) ⟨Nat.zero_le _, Nat.zero_le _⟩ rfl rfl (Nat.le_of_ble_eq_true rfl) (by decide) rfl (by decide) rfl (fun r F' h' hq1 => ?_)
    obtain ⟨rfl, rfl, hh⟩ := hq1
    obtain ⟨r4, rfl⟩ : ∃ z, z = h' := ⟨_, rfl⟩
    refine A_blk hM.1 4 (lv1 := [some (aR 18), some (aI v1), some (aI r3)]) (s1 := [aI 0, aI r3, aR 19]) (h1 := r4) rfl ?_
    refine A_callV hM rfl rfl (mem_GW 851 (by decide +kernel) rfl) mi_X10_add (As := [aI r3, aI 0]) (rest := []) (ct_X10_add 19 r3 0 r4 (by decide) (OK_bind hh)) (by decide) ⟨Nat.zero_le _, Nat.zero_le _⟩ rfl rfl (Nat.le_of_ble_eq_true rfl) (by decide) rfl (by decide) rfl (fun r F' h' hq1 => ?_)
    obtain ⟨rfl, rfl, hh⟩ := hq1
    obtain ⟨r5, rfl⟩ : ∃ z, z = h' := ⟨_, rfl⟩
    exact A_retv hM.1 rfl rfl rfl (hq r5 hh)
  · replace hh := OK_f hh hc
    refine A_blk hM.1 2 (lv1 := [some (aR 18), some (aI v1), none]) (s1 := [aI 1, aR 18]) (h1 := r1) rfl ?_
    refine A_callV hM rfl rfl (mem_GW 818 (by decide +kernel) rfl) mi_X6_blame (As := [aI 1]) (rest := []) (ct_X6_blame 1 r1 (OK_bind hh)) (by decide) ⟨Nat.zero_le _, Nat.zero_le _⟩ rfl rfl (Nat.le_of_ble_eq_true rfl) (by decide) rfl (by decide) rfl (fun r F' h' hq1 => ?_)
    obtain ⟨rfl, rfl, hh⟩ := hq1
    obtain ⟨r6, rfl⟩ : ∃ z, z = h' := ⟨_, rfl⟩
    exact A_retv hM.1 rfl rfl rfl (hq r6 hh)

set_option maxRecDepth 20000 in
set_option maxHeartbeats 4000000 in
theorem ct_X6_readComparison {G : Gx} (v1 : Int) (h : Hp)   {P : Hp → Prop} (hh : OK (X6_readComparison v1 h) P) : CT G yX6_readComparison M_X6_readComparison 68 0 0 FN h [aR 18, aI v1] (fun r F' h' => F' = FN ∧ r = none ∧ P h') :=
  CT.of (by decide +kernel) rfl (Nat.le_of_ble_eq_true rfl) k_X6_readComparison fun k0 _ _ hM => c_X6_readComparison hM v1 h (fun z hz => ⟨rfl, rfl, hz⟩) hh

theorem mi_X10_size : MIv yX10_size M_X10_size 0 := ⟨⟨(mem_GW 884 (by decide +kernel) rfl), (mem_GW 127 (by decide +kernel) rfl), by decide +kernel, by decide +kernel, by decide +kernel, by decide⟩, (mem_GW 882 (by decide +kernel) rfl), (mem_GW 883 (by decide +kernel) rfl)⟩
set_option maxRecDepth 20000 in
set_option maxHeartbeats 4000000 in
theorem c_X10_size {k0 : K0} {G : Gx} {Qp : Option AV → Fx → Hp → Prop} (hM : MB (KM k0 0 0 Qp) G M_X10_size 1) (t : Nat) (h : Hp)  (ht : t ∈ txL) {P : Int → Prop} (hq : ∀ z : Int, P z → Qp (some (aI z)) FN h) (hh : OK (X10_size t h) P) : ATk (KM k0 0 0 Qp) FN 0 0 M_X10_size 0 [some (aR t)] [] h := by
  unfold X10_size at hh
  refine A_blk hM.1 1 (lv1 := [some (aR t)]) (s1 := [aR t]) (h1 := h) rfl ?_
  refine A_gi hM.1 rfl rfl rfl (tx_k0 ht) (tx_l0 ht) rfl ?_
  exact A_reti hM.1 rfl rfl rfl (hq (h t 1) hh)

set_option maxRecDepth 20000 in
set_option maxHeartbeats 4000000 in
theorem ct_X10_size {G : Gx} (t : Nat) (h : Hp)  (ht : t ∈ txL) {P : Int → Prop} (hh : OK (X10_size t h) P) : CT G yX10_size M_X10_size 1 0 0 FN h [aR t] (fun r F' h' => F' = FN ∧ ∃ z, r = some (aI z) ∧ h' = h ∧ P z) :=
  CT.of (by decide +kernel) rfl (Nat.le_of_ble_eq_true rfl) k_X10_size fun k0 _ _ hM => c_X10_size hM t h ht (fun z hz => ⟨rfl, z, rfl, rfl, hz⟩) hh

theorem mi_X10_aim : MIv yX10_aim M_X10_aim 1 := ⟨⟨(mem_GW 888 (by decide +kernel) rfl), (mem_GW 127 (by decide +kernel) rfl), by decide +kernel, by decide +kernel, by decide +kernel, by decide⟩, (mem_GW 886 (by decide +kernel) rfl), (mem_GW 887 (by decide +kernel) rfl)⟩
set_option maxRecDepth 20000 in
set_option maxHeartbeats 4000000 in
theorem c_X10_aim {k0 : K0} {G : Gx} {Qp : Option AV → Fx → Hp → Prop} (hM : MB (KM k0 0 0 Qp) G M_X10_aim 2) (t : Nat) (v1 : Int) (h : Hp)  (ht : t ∈ txL) {P : Hp → Prop} (hq : ∀ z : Hp, P z → Qp none FN z) (hh : OK (X10_aim t v1 h) P) : ATk (KM k0 0 0 Qp) FN 0 0 M_X10_aim 0 [some (aR t), some (aI v1)] [] h := by
  unfold X10_aim at hh
  refine A_blk hM.1 1 (lv1 := [some (aR t), some (aI v1)]) (s1 := [aR t]) (h1 := h) rfl ?_
  refine A_gr hM.1 rfl rfl rfl (tx_k0 ht) (tx_l0 ht) (Nat.lt_trans (tx_l5 ht) NF_lt) (tx_r6 ht) rfl ?_
  refine A_blk hM.1 2 (lv1 := [some (aR t), some (aI v1)]) (s1 := [aR t, aI v1, aR (t + 5)]) (h1 := h) rfl ?_
  refine A_gi hM.1 rfl rfl rfl (tx_k0 ht) (tx_l0 ht) rfl ?_
  refine A_callSN (host := "QuotedBooks") hM rfl rfl (mem_NW 855 (by decide +kernel) rfl) mi_X11_put ms_X11_put (As := [aR (t + 5), aI v1, aI (h t 1)]) (rest := []) (ct_X11_put (t + 5) 160 v1 (h t 1) h (tx_k5 ht) (tx_n5 ht) (OK_bind hh)) (by decide) ⟨Nat.zero_le _, Nat.zero_le _⟩ rfl rfl (Nat.le_of_ble_eq_true rfl) (fun r F' h' hq1 => ?_)
  obtain ⟨rfl, rfl, hh⟩ := hq1
  obtain ⟨r1, rfl⟩ : ∃ z, z = h' := ⟨_, rfl⟩
  exact A_retv hM.1 rfl rfl rfl (hq r1 hh)

set_option maxRecDepth 20000 in
set_option maxHeartbeats 4000000 in
theorem ct_X10_aim {G : Gx} (t : Nat) (v1 : Int) (h : Hp)  (ht : t ∈ txL) {P : Hp → Prop} (hh : OK (X10_aim t v1 h) P) : CT G yX10_aim M_X10_aim 2 0 0 FN h [aR t, aI v1] (fun r F' h' => F' = FN ∧ r = none ∧ P h') :=
  CT.of (by decide +kernel) rfl (Nat.le_of_ble_eq_true rfl) k_X10_aim fun k0 _ _ hM => c_X10_aim hM t v1 h ht (fun z hz => ⟨rfl, rfl, hz⟩) hh

