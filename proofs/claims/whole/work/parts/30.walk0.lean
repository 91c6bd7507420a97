theorem mi_X11_within : MIs yX11_within M_X11_within 3 := ⟨(mem_GW 578 (by decide +kernel) rfl), (mem_GW 123 (by decide +kernel) rfl), by decide +kernel, by decide +kernel, by decide +kernel, by decide⟩
theorem ms_X11_within : .static yX11_within ∈ GW := (mem_GW 577 (by decide +kernel) rfl)
set_option maxRecDepth 20000 in
set_option maxHeartbeats 4000000 in
theorem c_X11_within {k0 : K0} {G : Gx} {Qp : Option AV → Fx → Hp → Prop} (hM : MB (KM k0 0 0 Qp) G M_X11_within 1) (v0 : Int) (v1 : Int) (v2 : Int) (h : Hp)  {P : Int → Prop} (hq : ∀ z : Int, P z → Qp (some (aI z)) FN h) (hh : OK (X11_within v0 v1 v2) P) : ATk (KM k0 0 0 Qp) FN 0 0 M_X11_within 0 [some (aI v0), some (aI v1), some (aI v2)] [] h := by
  unfold X11_within at hh
  refine A_blk hM.1 2 (lv1 := [some (aI v0), some (aI v1), some (aI v2)]) (s1 := [aI v1, aI v0]) (h1 := h) rfl ?_
  refine A_icmp hM.1 rfl rfl (fun hc => ?_) (fun hc => ?_)
  · replace hh := OK_t hh hc
    refine A_blk hM.1 1 (lv1 := [some (aI v0), some (aI v1), some (aI v2)]) (s1 := [aI 0]) (h1 := h) rfl ?_
    exact A_retz hM.1 rfl rfl rfl (by decide) (hq 0 hh)
  · replace hh := OK_f hh hc
    refine A_blk hM.1 2 (lv1 := [some (aI v0), some (aI v1), some (aI v2)]) (s1 := [aI v2, aI v0]) (h1 := h) rfl ?_
    refine A_icmp hM.1 rfl rfl (fun hc => ?_) (fun hc => ?_)
    · replace hh := OK_t hh hc
      refine A_blk hM.1 1 (lv1 := [some (aI v0), some (aI v1), some (aI v2)]) (s1 := [aI 0]) (h1 := h) rfl ?_
      exact A_retz hM.1 rfl rfl rfl (by decide) (hq 0 hh)
    · replace hh := OK_f hh hc
      refine A_blk hM.1 1 (lv1 := [some (aI v0), some (aI v1), some (aI v2)]) (s1 := [aI 1]) (h1 := h) rfl ?_
      refine A_go hM.1 rfl rfl ?_
      exact A_retz hM.1 rfl rfl rfl (by decide) (hq 1 hh)

set_option maxRecDepth 20000 in
set_option maxHeartbeats 4000000 in
theorem ct_X11_within {G : Gx} (v0 : Int) (v1 : Int) (v2 : Int) (h : Hp)  {P : Int → Prop} (hh : OK (X11_within v0 v1 v2) P) : CT G yX11_within M_X11_within 1 0 0 FN h [aI v0, aI v1, aI v2] (fun r F' h' => F' = FN ∧ ∃ z, r = some (aI z) ∧ h' = h ∧ P z) :=
  CT.of (by decide +kernel) rfl (Nat.le_of_ble_eq_true rfl) k_X11_within fun k0 _ _ hM => c_X11_within hM v0 v1 v2 h (fun z hz => ⟨rfl, z, rfl, rfl, hz⟩) hh

theorem mi_X11_put : MIs yX11_put M_X11_put 3 := ⟨(mem_GW 585 (by decide +kernel) rfl), (mem_GW 123 (by decide +kernel) rfl), by decide +kernel, by decide +kernel, by decide +kernel, by decide⟩
theorem ms_X11_put : .static yX11_put ∈ GW := (mem_GW 584 (by decide +kernel) rfl)
set_option maxRecDepth 20000 in
set_option maxHeartbeats 4000000 in
theorem c_X11_put {k0 : K0} {G : Gx} {Qp : Option AV → Fx → Hp → Prop} (hM : MB (KM k0 0 0 Qp) G M_X11_put 1) (a : Nat) (n : Nat) (v1 : Int) (v2 : Int) (h : Hp)  (hk : kd a = 14) (hn : ln a = n) {P : Hp → Prop} (hq : ∀ z : Hp, P z → Qp none FN z) (hh : OK (X11_put a n v1 v2 h) P) : ATk (KM k0 0 0 Qp) FN 0 0 M_X11_put 0 [some (aR a), some (aI v1), some (aI v2)] [] h := by
  unfold X11_put at hh
  refine A_blk hM.1 1 (lv1 := [some (aR a), some (aI v1), some (aI v2)]) (s1 := [aI v1]) (h1 := h) rfl ?_
  refine A_ifc hM.1 rfl rfl (fun hc => ?_) (fun hc => ?_)
  · replace hh := OK_t hh hc
    exact A_retv hM.1 rfl rfl rfl (hq h hh)
  · replace hh := OK_f hh hc
    refine A_blk hM.1 2 (lv1 := [some (aR a), some (aI v1), some (aI v2)]) (s1 := [aR a, aI v1]) (h1 := h) rfl ?_
    refine A_alen hM.1 rfl (Or.inl hk) hn (kd_in hk (by decide)) rfl ?_
    refine A_icmp hM.1 rfl rfl (fun hc => ?_) (fun hc => ?_)
    · replace hh := OK_t hh hc
      exact A_retv hM.1 rfl rfl rfl (hq h hh)
    · replace hh := OK_f hh hc
      refine A_blk hM.1 3 (lv1 := [some (aR a), some (aI v1), some (aI v2)]) (s1 := [aI v2, aI v1, aR a]) (h1 := h) rfl ?_
      obtain ⟨g1, hh⟩ := OK_g hh
      refine A_ast hM.1 rfl (Or.inl ⟨rfl, hk, rfl⟩) hn rfl rfl g1 ?_
      exact A_retv hM.1 rfl rfl rfl (hq (setH h a ((w32 v1).toNat) v2) hh)

set_option maxRecDepth 20000 in
set_option maxHeartbeats 4000000 in
theorem ct_X11_put {G : Gx} (a : Nat) (n : Nat) (v1 : Int) (v2 : Int) (h : Hp)  (hk : kd a = 14) (hn : ln a = n) {P : Hp → Prop} (hh : OK (X11_put a n v1 v2 h) P) : CT G yX11_put M_X11_put 1 0 0 FN h [aR a, aI v1, aI v2] (fun r F' h' => F' = FN ∧ r = none ∧ P h') :=
  CT.of (by decide +kernel) rfl (Nat.le_of_ble_eq_true rfl) k_X11_put fun k0 _ _ hM => c_X11_put hM a n v1 v2 h hk hn (fun z hz => ⟨rfl, rfl, hz⟩) hh

theorem mi_X7_addAuthor : MIv yX7_addAuthor M_X7_addAuthor 2 := ⟨⟨(mem_GW 582 (by decide +kernel) rfl), (mem_GW 125 (by decide +kernel) rfl), by decide +kernel, by decide +kernel, by decide +kernel, by decide⟩, (mem_GW 580 (by decide +kernel) rfl), (mem_GW 581 (by decide +kernel) rfl)⟩
set_option maxRecDepth 20000 in
set_option maxHeartbeats 4000000 in
theorem c_X7_addAuthor {k0 : K0} {G : Gx} {Qp : Option AV → Fx → Hp → Prop} (hM : MB (KM k0 0 0 Qp) G M_X7_addAuthor 2) (v1 : Int) (v2 : Int) (h : Hp)   {P : (Int × Hp) → Prop} (hq : ∀ z : Int × Hp, P z → Qp (some (aI z.1)) FN z.2) (hh : OK (X7_addAuthor v1 v2 h) P) : ATk (KM k0 0 0 Qp) FN 0 0 M_X7_addAuthor 0 [some (aR 3), some (aI v1), some (aI v2)] [] h := by
  unfold X7_addAuthor at hh
  refine A_blk hM.1 3 (lv1 := [some (aR 3), some (aI v1), some (aI v2)]) (s1 := [aI 8, aI (h 3 0)]) (h1 := h) rfl ?_
  refine A_icmp hM.1 rfl rfl (fun hc => ?_) (fun hc => ?_)
  · replace hh := OK_t hh hc
    refine A_blk hM.1 5 (lv1 := [some (aR 3), some (aI v1), some (aI v2)]) (s1 := [aI v1, aI (h 3 0), aR 4]) (h1 := h) rfl ?_
    refine A_callSN (host := "QuotedBooks") hM rfl rfl (mem_NW 583 (by decide +kernel) rfl) mi_X11_put ms_X11_put (As := [aR 4, aI (h 3 0), aI v1]) (rest := []) (ct_X11_put 4 8 (h 3 0) v1 h rfl rfl (OK_bind hh)) (by decide) ⟨Nat.zero_le _, Nat.zero_le _⟩ rfl rfl (Nat.le_of_ble_eq_true rfl) (fun r F' h' hq1 => ?_)
    obtain ⟨rfl, rfl, hh⟩ := hq1
    obtain ⟨r1, rfl⟩ : ∃ z, z = h' := ⟨_, rfl⟩
    refine A_blk hM.1 5 (lv1 := [some (aR 3), some (aI v1), some (aI v2)]) (s1 := [aI v2, aI (r1 3 0), aR 5]) (h1 := r1) rfl ?_
    refine A_callSN (host := "QuotedBooks") hM rfl rfl (mem_NW 583 (by decide +kernel) rfl) mi_X11_put ms_X11_put (As := [aR 5, aI (r1 3 0), aI v2]) (rest := []) (ct_X11_put 5 8 (r1 3 0) v2 r1 rfl rfl (OK_bind hh)) (by decide) ⟨Nat.zero_le _, Nat.zero_le _⟩ rfl rfl (Nat.le_of_ble_eq_true rfl) (fun r F' h' hq1 => ?_)
    obtain ⟨rfl, rfl, hh⟩ := hq1
    obtain ⟨r2, rfl⟩ : ∃ z, z = h' := ⟨_, rfl⟩
    refine A_blk hM.1 10 (lv1 := [some (aR 3), some (aI v1), some (aI v2)]) (s1 := [aI (((r2 3 0) + 1) - 1)]) (h1 := setH r2 3 0 ((r2 3 0) + 1)) rfl ?_
    exact A_reti hM.1 rfl rfl rfl (hq (((r2 3 0) + 1) - 1, setH r2 3 0 ((r2 3 0) + 1)) hh)
  · replace hh := OK_f hh hc
    refine A_blk hM.1 1 (lv1 := [some (aR 3), some (aI v1), some (aI v2)]) (s1 := [aI (-1)]) (h1 := h) rfl ?_
    exact A_reti hM.1 rfl rfl rfl (hq ((-1), h) hh)

set_option maxRecDepth 20000 in
set_option maxHeartbeats 4000000 in
theorem ct_X7_addAuthor {G : Gx} (v1 : Int) (v2 : Int) (h : Hp)   {P : (Int × Hp) → Prop} (hh : OK (X7_addAuthor v1 v2 h) P) : CT G yX7_addAuthor M_X7_addAuthor 2 0 0 FN h [aR 3, aI v1, aI v2] (fun r F' h' => F' = FN ∧ ∃ z, r = some (aI z.1) ∧ h' = z.2 ∧ P z) :=
  CT.of (by decide +kernel) rfl (Nat.le_of_ble_eq_true rfl) k_X7_addAuthor fun k0 _ _ hM => c_X7_addAuthor hM v1 v2 h (fun z hz => ⟨rfl, z, rfl, rfl, hz⟩) hh

theorem mi_X11_author : MIv yX11_author M_X11_author 2 := ⟨⟨(mem_GW 575 (by decide +kernel) rfl), (mem_GW 123 (by decide +kernel) rfl), by decide +kernel, by decide +kernel, by decide +kernel, by decide⟩, (mem_GW 573 (by decide +kernel) rfl), (mem_GW 574 (by decide +kernel) rfl)⟩
set_option maxRecDepth 20000 in
set_option maxHeartbeats 4000000 in
theorem c_X11_author {k0 : K0} {G : Gx} {Qp : Option AV → Fx → Hp → Prop} (hM : MB (KM k0 0 0 Qp) G M_X11_author 3) (v1 : Int) (v2 : Int) (h : Hp)   {P : (Int × Hp) → Prop} (hq : ∀ z : Int × Hp, P z → Qp (some (aI z.1)) FN z.2) (hh : OK (X11_author v1 v2 h) P) : ATk (KM k0 0 0 Qp) FN 0 0 M_X11_author 0 [some (aR 0), some (aI v1), some (aI v2)] [] h := by
  unfold X11_author at hh
  refine A_blk hM.1 3 (lv1 := [some (aR 0), some (aI v1), some (aI v2)]) (s1 := [aI 999, aI 0, aI v1]) (h1 := h) rfl ?_
  refine A_callS hM rfl rfl (mem_GW 576 (by decide +kernel) rfl) mi_X11_within ms_X11_within (As := [aI v1, aI 0, aI 999]) (rest := []) (ct_X11_within v1 0 999 h (OK_bind hh)) (by decide) ⟨Nat.zero_le _, Nat.zero_le _⟩ rfl rfl (Nat.le_of_ble_eq_true rfl) (fun r F' h' hq1 => ?_)
  obtain ⟨rfl, r1, rfl, e9, hh⟩ := hq1
  subst h'
  refine A_ifc hM.1 rfl rfl (fun hc => ?_) (fun hc => ?_)
  · replace hh := OK_t hh hc
    refine A_blk hM.1 1 (lv1 := [some (aR 0), some (aI v1), some (aI v2)]) (s1 := [aI (-1)]) (h1 := h) rfl ?_
    exact A_reti hM.1 rfl rfl rfl (hq ((-1), h) hh)
  · replace hh := OK_f hh hc
    refine A_blk hM.1 3 (lv1 := [some (aR 0), some (aI v1), some (aI v2)]) (s1 := [aI 100, aI 1, aI v2]) (h1 := h) rfl ?_
    refine A_callS hM rfl rfl (mem_GW 576 (by decide +kernel) rfl) mi_X11_within ms_X11_within (As := [aI v2, aI 1, aI 100]) (rest := []) (ct_X11_within v2 1 100 h (OK_bind hh)) (by decide) ⟨Nat.zero_le _, Nat.zero_le _⟩ rfl rfl (Nat.le_of_ble_eq_true rfl) (fun r F' h' hq1 => ?_)
    obtain ⟨rfl, r2, rfl, e9, hh⟩ := hq1
    subst h'
    refine A_ifc hM.1 rfl rfl (fun hc => ?_) (fun hc => ?_)
    · replace hh := OK_t hh hc
      refine A_blk hM.1 4 (lv1 := [some (aR 0), some (aI v1), some (aI v2)]) (s1 := [aI v2, aI v1, aR 3]) (h1 := h) rfl ?_
      refine A_callV hM rfl rfl (mem_GW 579 (by decide +kernel) rfl) mi_X7_addAuthor (As := [aI v1, aI v2]) (rest := []) (ct_X7_addAuthor v1 v2 h (OK_bind hh)) (by decide) ⟨Nat.zero_le _, Nat.zero_le _⟩ rfl rfl (Nat.le_of_ble_eq_true rfl) (by decide) rfl (by decide) rfl (fun r F' h' hq1 => ?_)
      obtain ⟨rfl, r3, rfl, e9, hh⟩ := hq1
      subst h'
      exact A_reti hM.1 rfl rfl rfl (hq (r3.1, r3.2) hh)
    · replace hh := OK_f hh hc
      refine A_blk hM.1 1 (lv1 := [some (aR 0), some (aI v1), some (aI v2)]) (s1 := [aI (-1)]) (h1 := h) rfl ?_
      exact A_reti hM.1 rfl rfl rfl (hq ((-1), h) hh)

set_option maxRecDepth 20000 in
set_option maxHeartbeats 4000000 in
theorem ct_X11_author {G : Gx} (v1 : Int) (v2 : Int) (h : Hp)   {P : (Int × Hp) → Prop} (hh : OK (X11_author v1 v2 h) P) : CT G yX11_author M_X11_author 3 0 0 FN h [aR 0, aI v1, aI v2] (fun r F' h' => F' = FN ∧ ∃ z, r = some (aI z.1) ∧ h' = z.2 ∧ P z) :=
  CT.of (by decide +kernel) rfl (Nat.le_of_ble_eq_true rfl) k_X11_author fun k0 _ _ hM => c_X11_author hM v1 v2 h (fun z hz => ⟨rfl, z, rfl, rfl, hz⟩) hh

theorem mi_X7_isAuthor : MIv yX7_isAuthor M_X7_isAuthor 1 := ⟨⟨(mem_GW 593 (by decide +kernel) rfl), (mem_GW 125 (by decide +kernel) rfl), by decide +kernel, by decide +kernel, by decide +kernel, by decide⟩, (mem_GW 591 (by decide +kernel) rfl), (mem_GW 592 (by decide +kernel) rfl)⟩
set_option maxRecDepth 20000 in
set_option maxHeartbeats 4000000 in
theorem c_X7_isAuthor {k0 : K0} {G : Gx} {Qp : Option AV → Fx → Hp → Prop} (hM : MB (KM k0 0 0 Qp) G M_X7_isAuthor 1) (v1 : Int) (h : Hp)   {P : Int → Prop} (hq : ∀ z : Int, P z → Qp (some (aI z)) FN h) (hh : OK (X7_isAuthor v1 h) P) : ATk (KM k0 0 0 Qp) FN 0 0 M_X7_isAuthor 0 [some (aR 3), some (aI v1)] [] h := by
  unfold X7_isAuthor at hh
  refine A_blk hM.1 1 (lv1 := [some (aR 3), some (aI v1)]) (s1 := [aI v1]) (h1 := h) rfl ?_
  refine A_ifc hM.1 rfl rfl (fun hc => ?_) (fun hc => ?_)
  · replace hh := OK_t hh hc
    refine A_blk hM.1 1 (lv1 := [some (aR 3), some (aI v1)]) (s1 := [aI 0]) (h1 := h) rfl ?_
    exact A_retz hM.1 rfl rfl rfl (by decide) (hq 0 hh)
  · replace hh := OK_f hh hc
    refine A_blk hM.1 3 (lv1 := [some (aR 3), some (aI v1)]) (s1 := [aI (h 3 0), aI v1]) (h1 := h) rfl ?_
    refine A_icmp hM.1 rfl rfl (fun hc => ?_) (fun hc => ?_)
    · replace hh := OK_t hh hc
      refine A_blk hM.1 1 (lv1 := [some (aR 3), some (aI v1)]) (s1 := [aI 0]) (h1 := h) rfl ?_
      exact A_retz hM.1 rfl rfl rfl (by decide) (hq 0 hh)
    · replace hh := OK_f hh hc
      refine A_blk hM.1 1 (lv1 := [some (aR 3), some (aI v1)]) (s1 := [aI 1]) (h1 := h) rfl ?_
      refine A_go hM.1 rfl rfl ?_
      exact A_retz hM.1 rfl rfl rfl (by decide) (hq 1 hh)

set_option maxRecDepth 20000 in
set_option maxHeartbeats 4000000 in
theorem ct_X7_isAuthor {G : Gx} (v1 : Int) (h : Hp)   {P : Int → Prop} (hh : OK (X7_isAuthor v1 h) P) : CT G yX7_isAuthor M_X7_isAuthor 1 0 0 FN h [aR 3, aI v1] (fun r F' h' => F' = FN ∧ ∃ z, r = some (aI z) ∧ h' = h ∧ P z) :=
  CT.of (by decide +kernel) rfl (Nat.le_of_ble_eq_true rfl) k_X7_isAuthor fun k0 _ _ hM => c_X7_isAuthor hM v1 h (fun z hz => ⟨rfl, z, rfl, rfl, hz⟩) hh

theorem mi_X7_addWork : MIv yX7_addWork M_X7_addWork 2 := ⟨⟨(mem_GW 597 (by decide +kernel) rfl), (mem_GW 125 (by decide +kernel) rfl), by decide +kernel, by decide +kernel, by decide +kernel, by decide⟩, (mem_GW 595 (by decide +kernel) rfl), (mem_GW 596 (by decide +kernel) rfl)⟩
set_option maxRecDepth 20000 in
set_option maxHeartbeats 4000000 in
theorem c_X7_addWork {k0 : K0} {G : Gx} {Qp : Option AV → Fx → Hp → Prop} (hM : MB (KM k0 0 0 Qp) G M_X7_addWork 2) (v1 : Int) (v2 : Int) (h : Hp)   {P : (Int × Hp) → Prop} (hq : ∀ z : Int × Hp, P z → Qp (some (aI z.1)) FN z.2) (hh : OK (X7_addWork v1 v2 h) P) : ATk (KM k0 0 0 Qp) FN 0 0 M_X7_addWork 0 [some (aR 3), some (aI v1), some (aI v2)] [] h := by
  unfold X7_addWork at hh
  refine A_blk hM.1 3 (lv1 := [some (aR 3), some (aI v1), some (aI v2)]) (s1 := [aI 8, aI (h 3 3)]) (h1 := h) rfl ?_
  refine A_icmp hM.1 rfl rfl (fun hc => ?_) (fun hc => ?_)
  · replace hh := OK_t hh hc
    refine A_blk hM.1 5 (lv1 := [some (aR 3), some (aI v1), some (aI v2)]) (s1 := [aI v1, aI (h 3 3), aR 6]) (h1 := h) rfl ?_
    refine A_callSN (host := "QuotedBooks") hM rfl rfl (mem_NW 583 (by decide +kernel) rfl) mi_X11_put ms_X11_put (As := [aR 6, aI (h 3 3), aI v1]) (rest := []) (ct_X11_put 6 8 (h 3 3) v1 h rfl rfl (OK_bind hh)) (by decide) ⟨Nat.zero_le _, Nat.zero_le _⟩ rfl rfl (Nat.le_of_ble_eq_true rfl) (fun r F' h' hq1 => ?_)
    obtain ⟨rfl, rfl, hh⟩ := hq1
    obtain ⟨r1, rfl⟩ : ∃ z, z = h' := ⟨_, rfl⟩
    refine A_blk hM.1 5 (lv1 := [some (aR 3), some (aI v1), some (aI v2)]) (s1 := [aI v2, aI (r1 3 3), aR 7]) (h1 := r1) rfl ?_
    refine A_callSN (host := "QuotedBooks") hM rfl rfl (mem_NW 583 (by decide +kernel) rfl) mi_X11_put ms_X11_put (As := [aR 7, aI (r1 3 3), aI v2]) (rest := []) (ct_X11_put 7 8 (r1 3 3) v2 r1 rfl rfl (OK_bind hh)) (by decide) ⟨Nat.zero_le _, Nat.zero_le _⟩ rfl rfl (Nat.le_of_ble_eq_true rfl) (fun r F' h' hq1 => ?_)
    obtain ⟨rfl, rfl, hh⟩ := hq1
    obtain ⟨r2, rfl⟩ : ∃ z, z = h' := ⟨_, rfl⟩
    refine A_blk hM.1 10 (lv1 := [some (aR 3), some (aI v1), some (aI v2)]) (s1 := [aI (((r2 3 3) + 1) - 1)]) (h1 := setH r2 3 3 ((r2 3 3) + 1)) rfl ?_
    exact A_reti hM.1 rfl rfl rfl (hq (((r2 3 3) + 1) - 1, setH r2 3 3 ((r2 3 3) + 1)) hh)
  · replace hh := OK_f hh hc
    refine A_blk hM.1 1 (lv1 := [some (aR 3), some (aI v1), some (aI v2)]) (s1 := [aI (-1)]) (h1 := h) rfl ?_
    exact A_reti hM.1 rfl rfl rfl (hq ((-1), h) hh)

set_option maxRecDepth 20000 in
set_option maxHeartbeats 4000000 in
theorem ct_X7_addWork {G : Gx} (v1 : Int) (v2 : Int) (h : Hp)   {P : (Int × Hp) → Prop} (hh : OK (X7_addWork v1 v2 h) P) : CT G yX7_addWork M_X7_addWork 2 0 0 FN h [aR 3, aI v1, aI v2] (fun r F' h' => F' = FN ∧ ∃ z, r = some (aI z.1) ∧ h' = z.2 ∧ P z) :=
  CT.of (by decide +kernel) rfl (Nat.le_of_ble_eq_true rfl) k_X7_addWork fun k0 _ _ hM => c_X7_addWork hM v1 v2 h (fun z hz => ⟨rfl, z, rfl, rfl, hz⟩) hh

theorem mi_X11_work : MIv yX11_work M_X11_work 2 := ⟨⟨(mem_GW 589 (by decide +kernel) rfl), (mem_GW 123 (by decide +kernel) rfl), by decide +kernel, by decide +kernel, by decide +kernel, by decide⟩, (mem_GW 587 (by decide +kernel) rfl), (mem_GW 588 (by decide +kernel) rfl)⟩
set_option maxRecDepth 20000 in
set_option maxHeartbeats 4000000 in
theorem c_X11_work {k0 : K0} {G : Gx} {Qp : Option AV → Fx → Hp → Prop} (hM : MB (KM k0 0 0 Qp) G M_X11_work 3) (v1 : Int) (v2 : Int) (h : Hp)   {P : (Int × Hp) → Prop} (hq : ∀ z : Int × Hp, P z → Qp (some (aI z.1)) FN z.2) (hh : OK (X11_work v1 v2 h) P) : ATk (KM k0 0 0 Qp) FN 0 0 M_X11_work 0 [some (aR 0), some (aI v1), some (aI v2)] [] h := by
  unfold X11_work at hh
  refine A_blk hM.1 3 (lv1 := [some (aR 0), some (aI v1), some (aI v2)]) (s1 := [aI v1, aR 3]) (h1 := h) rfl ?_
  refine A_callV hM rfl rfl (mem_GW 590 (by decide +kernel) rfl) mi_X7_isAuthor (As := [aI v1]) (rest := []) (ct_X7_isAuthor v1 h (OK_bind hh)) (by decide) ⟨Nat.zero_le _, Nat.zero_le _⟩ rfl rfl (Nat.le_of_ble_eq_true rfl) (by decide) rfl (by decide) rfl (fun r F' h' hq1 => ?_)
  obtain ⟨rfl, r1, rfl, e9, hh⟩ := hq1
  subst h'
  refine A_ifc hM.1 rfl rfl (fun hc => ?_) (fun hc => ?_)
  · replace hh := OK_t hh hc
    refine A_blk hM.1 1 (lv1 := [some (aR 0), some (aI v1), some (aI v2)]) (s1 := [aI (-1)]) (h1 := h) rfl ?_
    exact A_reti hM.1 rfl rfl rfl (hq ((-1), h) hh)
  · replace hh := OK_f hh hc
    refine A_blk hM.1 3 (lv1 := [some (aR 0), some (aI v1), some (aI v2)]) (s1 := [aI 40, aI 1, aI v2]) (h1 := h) rfl ?_
    refine A_callS hM rfl rfl (mem_GW 576 (by decide +kernel) rfl) mi_X11_within ms_X11_within (As := [aI v2, aI 1, aI 40]) (rest := []) (ct_X11_within v2 1 40 h (OK_bind hh)) (by decide) ⟨Nat.zero_le _, Nat.zero_le _⟩ rfl rfl (Nat.le_of_ble_eq_true rfl) (fun r F' h' hq1 => ?_)
    obtain ⟨rfl, r2, rfl, e9, hh⟩ := hq1
    subst h'
    refine A_ifc hM.1 rfl rfl (fun hc => ?_) (fun hc => ?_)
    · replace hh := OK_t hh hc
      refine A_blk hM.1 4 (lv1 := [some (aR 0), some (aI v1), some (aI v2)]) (s1 := [aI v2, aI v1, aR 3]) (h1 := h) rfl ?_
      refine A_callV hM rfl rfl (mem_GW 594 (by decide +kernel) rfl) mi_X7_addWork (As := [aI v1, aI v2]) (rest := []) (ct_X7_addWork v1 v2 h (OK_bind hh)) (by decide) ⟨Nat.zero_le _, Nat.zero_le _⟩ rfl rfl (Nat.le_of_ble_eq_true rfl) (by decide) rfl (by decide) rfl (fun r F' h' hq1 => ?_)
      obtain ⟨rfl, r3, rfl, e9, hh⟩ := hq1
      subst h'
      exact A_reti hM.1 rfl rfl rfl (hq (r3.1, r3.2) hh)
    · replace hh := OK_f hh hc
      refine A_blk hM.1 1 (lv1 := [some (aR 0), some (aI v1), some (aI v2)]) (s1 := [aI (-1)]) (h1 := h) rfl ?_
      exact A_reti hM.1 rfl rfl rfl (hq ((-1), h) hh)

set_option maxRecDepth 20000 in
set_option maxHeartbeats 4000000 in
theorem ct_X11_work {G : Gx} (v1 : Int) (v2 : Int) (h : Hp)   {P : (Int × Hp) → Prop} (hh : OK (X11_work v1 v2 h) P) : CT G yX11_work M_X11_work 3 0 0 FN h [aR 0, aI v1, aI v2] (fun r F' h' => F' = FN ∧ ∃ z, r = some (aI z.1) ∧ h' = z.2 ∧ P z) :=
  CT.of (by decide +kernel) rfl (Nat.le_of_ble_eq_true rfl) k_X11_work fun k0 _ _ hM => c_X11_work hM v1 v2 h (fun z hz => ⟨rfl, z, rfl, rfl, hz⟩) hh

theorem mi_X7_addWriter : MIv yX7_addWriter M_X7_addWriter 1 := ⟨⟨(mem_GW 605 (by decide +kernel) rfl), (mem_GW 125 (by decide +kernel) rfl), by decide +kernel, by decide +kernel, by decide +kernel, by decide⟩, (mem_GW 603 (by decide +kernel) rfl), (mem_GW 604 (by decide +kernel) rfl)⟩
set_option maxRecDepth 20000 in
set_option maxHeartbeats 4000000 in
theorem c_X7_addWriter {k0 : K0} {G : Gx} {Qp : Option AV → Fx → Hp → Prop} (hM : MB (KM k0 0 0 Qp) G M_X7_addWriter 2) (v1 : Int) (h : Hp)   {P : (Int × Hp) → Prop} (hq : ∀ z : Int × Hp, P z → Qp (some (aI z.1)) FN z.2) (hh : OK (X7_addWriter v1 h) P) : ATk (KM k0 0 0 Qp) FN 0 0 M_X7_addWriter 0 [some (aR 3), some (aI v1)] [] h := by
  unfold X7_addWriter at hh
  refine A_blk hM.1 3 (lv1 := [some (aR 3), some (aI v1)]) (s1 := [aI 8, aI (h 3 9)]) (h1 := h) rfl ?_
  refine A_icmp hM.1 rfl rfl (fun hc => ?_) (fun hc => ?_)
  · replace hh := OK_t hh hc
    refine A_blk hM.1 5 (lv1 := [some (aR 3), some (aI v1)]) (s1 := [aI v1, aI (h 3 9), aR 11]) (h1 := h) rfl ?_
    refine A_callSN (host := "QuotedBooks") hM rfl rfl (mem_NW 583 (by decide +kernel) rfl) mi_X11_put ms_X11_put (As := [aR 11, aI (h 3 9), aI v1]) (rest := []) (ct_X11_put 11 8 (h 3 9) v1 h rfl rfl (OK_bind hh)) (by decide) ⟨Nat.zero_le _, Nat.zero_le _⟩ rfl rfl (Nat.le_of_ble_eq_true rfl) (fun r F' h' hq1 => ?_)
    obtain ⟨rfl, rfl, hh⟩ := hq1
    obtain ⟨r1, rfl⟩ : ∃ z, z = h' := ⟨_, rfl⟩
    refine A_blk hM.1 10 (lv1 := [some (aR 3), some (aI v1)]) (s1 := [aI (((r1 3 9) + 1) - 1)]) (h1 := setH r1 3 9 ((r1 3 9) + 1)) rfl ?_
    exact A_reti hM.1 rfl rfl rfl (hq (((r1 3 9) + 1) - 1, setH r1 3 9 ((r1 3 9) + 1)) hh)
  · replace hh := OK_f hh hc
    refine A_blk hM.1 1 (lv1 := [some (aR 3), some (aI v1)]) (s1 := [aI (-1)]) (h1 := h) rfl ?_
    exact A_reti hM.1 rfl rfl rfl (hq ((-1), h) hh)

set_option maxRecDepth 20000 in
set_option maxHeartbeats 4000000 in
theorem ct_X7_addWriter {G : Gx} (v1 : Int) (h : Hp)   {P : (Int × Hp) → Prop} (hh : OK (X7_addWriter v1 h) P) : CT G yX7_addWriter M_X7_addWriter 2 0 0 FN h [aR 3, aI v1] (fun r F' h' => F' = FN ∧ ∃ z, r = some (aI z.1) ∧ h' = z.2 ∧ P z) :=
  CT.of (by decide +kernel) rfl (Nat.le_of_ble_eq_true rfl) k_X7_addWriter fun k0 _ _ hM => c_X7_addWriter hM v1 h (fun z hz => ⟨rfl, z, rfl, rfl, hz⟩) hh

theorem mi_X11_writer : MIv yX11_writer M_X11_writer 1 := ⟨⟨(mem_GW 601 (by decide +kernel) rfl), (mem_GW 123 (by decide +kernel) rfl), by decide +kernel, by decide +kernel, by decide +kernel, by decide⟩, (mem_GW 599 (by decide +kernel) rfl), (mem_GW 600 (by decide +kernel) rfl)⟩
set_option maxRecDepth 20000 in
set_option maxHeartbeats 4000000 in
theorem c_X11_writer {k0 : K0} {G : Gx} {Qp : Option AV → Fx → Hp → Prop} (hM : MB (KM k0 0 0 Qp) G M_X11_writer 3) (v1 : Int) (h : Hp)   {P : (Int × Hp) → Prop} (hq : ∀ z : Int × Hp, P z → Qp (some (aI z.1)) FN z.2) (hh : OK (X11_writer v1 h) P) : ATk (KM k0 0 0 Qp) FN 0 0 M_X11_writer 0 [some (aR 0), some (aI v1)] [] h := by
  unfold X11_writer at hh
  refine A_blk hM.1 3 (lv1 := [some (aR 0), some (aI v1)]) (s1 := [aI 999, aI 0, aI v1]) (h1 := h) rfl ?_
  refine A_callS hM rfl rfl (mem_GW 576 (by decide +kernel) rfl) mi_X11_within ms_X11_within (As := [aI v1, aI 0, aI 999]) (rest := []) (ct_X11_within v1 0 999 h (OK_bind hh)) (by decide) ⟨Nat.zero_le _, Nat.zero_le _⟩ rfl rfl (Nat.le_of_ble_eq_true rfl) (fun r F' h' hq1 => ?_)
  obtain ⟨rfl, r1, rfl, e9, hh⟩ := hq1
  subst h'
  refine A_ifc hM.1 rfl rfl (fun hc => ?_) (fun hc => ?_)
  · replace hh := OK_t hh hc
    refine A_blk hM.1 1 (lv1 := [some (aR 0), some (aI v1)]) (s1 := [aI (-1)]) (h1 := h) rfl ?_
    exact A_reti hM.1 rfl rfl rfl (hq ((-1), h) hh)
  · replace hh := OK_f hh hc
    refine A_blk hM.1 3 (lv1 := [some (aR 0), some (aI v1)]) (s1 := [aI v1, aR 3]) (h1 := h) rfl ?_
    refine A_callV hM rfl rfl (mem_GW 602 (by decide +kernel) rfl) mi_X7_addWriter (As := [aI v1]) (rest := []) (ct_X7_addWriter v1 h (OK_bind hh)) (by decide) ⟨Nat.zero_le _, Nat.zero_le _⟩ rfl rfl (Nat.le_of_ble_eq_true rfl) (by decide) rfl (by decide) rfl (fun r F' h' hq1 => ?_)
    obtain ⟨rfl, r2, rfl, e9, hh⟩ := hq1
    subst h'
    refine A_go hM.1 rfl rfl ?_
    exact A_reti hM.1 rfl rfl rfl (hq (r2.1, r2.2) hh)

set_option maxRecDepth 20000 in
set_option maxHeartbeats 4000000 in
theorem ct_X11_writer {G : Gx} (v1 : Int) (h : Hp)   {P : (Int × Hp) → Prop} (hh : OK (X11_writer v1 h) P) : CT G yX11_writer M_X11_writer 3 0 0 FN h [aR 0, aI v1] (fun r F' h' => F' = FN ∧ ∃ z, r = some (aI z.1) ∧ h' = z.2 ∧ P z) :=
  CT.of (by decide +kernel) rfl (Nat.le_of_ble_eq_true rfl) k_X11_writer fun k0 _ _ hM => c_X11_writer hM v1 h (fun z hz => ⟨rfl, z, rfl, rfl, hz⟩) hh

theorem mi_X11_seed : MIv yX11_seed M_X11_seed 1 := ⟨⟨(mem_GW 609 (by decide +kernel) rfl), (mem_GW 123 (by decide +kernel) rfl), by decide +kernel, by decide +kernel, by decide +kernel, by decide⟩, (mem_GW 607 (by decide +kernel) rfl), (mem_GW 608 (by decide +kernel) rfl)⟩
set_option maxRecDepth 20000 in
set_option maxHeartbeats 4000000 in
theorem c_X11_seed {k0 : K0} {G : Gx} {Qp : Option AV → Fx → Hp → Prop} (hM : MB (KM k0 0 0 Qp) G M_X11_seed 2) (v1 : Int) (h : Hp)   {P : (Int × Hp) → Prop} (hq : ∀ z : Int × Hp, P z → Qp (some (aI z.1)) FN z.2) (hh : OK (X11_seed v1 h) P) : ATk (KM k0 0 0 Qp) FN 0 0 M_X11_seed 0 [some (aR 0), some (aI v1)] [] h := by
  unfold X11_seed at hh
  refine A_blk hM.1 3 (lv1 := [some (aR 0), some (aI v1)]) (s1 := [aI 65535, aI 0, aI v1]) (h1 := h) rfl ?_
  refine A_callS hM rfl rfl (mem_GW 576 (by decide +kernel) rfl) mi_X11_within ms_X11_within (As := [aI v1, aI 0, aI 65535]) (rest := []) (ct_X11_within v1 0 65535 h (OK_bind hh)) (by decide) ⟨Nat.zero_le _, Nat.zero_le _⟩ rfl rfl (Nat.le_of_ble_eq_true rfl) (fun r F' h' hq1 => ?_)
  obtain ⟨rfl, r1, rfl, e9, hh⟩ := hq1
  subst h'
  refine A_ifc hM.1 rfl rfl (fun hc => ?_) (fun hc => ?_)
  · replace hh := OK_t hh hc
    refine A_blk hM.1 4 (lv1 := [some (aR 0), some (aI v1)]) (s1 := [aI 1]) (h1 := setH h 0 15 v1) rfl ?_
    exact A_retz hM.1 rfl rfl rfl (by decide) (hq (1, setH h 0 15 v1) hh)
  · replace hh := OK_f hh hc
    refine A_blk hM.1 1 (lv1 := [some (aR 0), some (aI v1)]) (s1 := [aI 0]) (h1 := h) rfl ?_
    exact A_retz hM.1 rfl rfl rfl (by decide) (hq (0, h) hh)

set_option maxRecDepth 20000 in
set_option maxHeartbeats 4000000 in
theorem ct_X11_seed {G : Gx} (v1 : Int) (h : Hp)   {P : (Int × Hp) → Prop} (hh : OK (X11_seed v1 h) P) : CT G yX11_seed M_X11_seed 2 0 0 FN h [aR 0, aI v1] (fun r F' h' => F' = FN ∧ ∃ z, r = some (aI z.1) ∧ h' = z.2 ∧ P z) :=
  CT.of (by decide +kernel) rfl (Nat.le_of_ble_eq_true rfl) k_X11_seed fun k0 _ _ hM => c_X11_seed hM v1 h (fun z hz => ⟨rfl, z, rfl, rfl, hz⟩) hh

theorem mi_X9_hasRoomFor : MIv yX9_hasRoomFor M_X9_hasRoomFor 1 := ⟨⟨(mem_GW 618 (by decide +kernel) rfl), (mem_GW 124 (by decide +kernel) rfl), by decide +kernel, by decide +kernel, by decide +kernel, by decide⟩, (mem_GW 616 (by decide +kernel) rfl), (mem_GW 617 (by decide +kernel) rfl)⟩
set_option maxRecDepth 20000 in
set_option maxHeartbeats 4000000 in
theorem c_X9_hasRoomFor {k0 : K0} {G : Gx} {Qp : Option AV → Fx → Hp → Prop} (hM : MB (KM k0 0 0 Qp) G M_X9_hasRoomFor 1) (v1 : Int) (h : Hp)   {P : Int → Prop} (hq : ∀ z : Int, P z → Qp (some (aI z)) FN h) (hh : OK (X9_hasRoomFor v1 h) P) : ATk (KM k0 0 0 Qp) FN 0 0 M_X9_hasRoomFor 0 [some (aR 1), some (aI v1)] [] h := by
  unfold X9_hasRoomFor at hh
  refine A_blk hM.1 5 (lv1 := [some (aR 1), some (aI v1)]) (s1 := [aI (200 - (h 1 1)), aI v1]) (h1 := h) rfl ?_
  refine A_icmp hM.1 rfl rfl (fun hc => ?_) (fun hc => ?_)
  · replace hh := OK_t hh hc
    refine A_blk hM.1 1 (lv1 := [some (aR 1), some (aI v1)]) (s1 := [aI 0]) (h1 := h) rfl ?_
    exact A_retz hM.1 rfl rfl rfl (by decide) (hq 0 hh)
  · replace hh := OK_f hh hc
    refine A_blk hM.1 1 (lv1 := [some (aR 1), some (aI v1)]) (s1 := [aI 1]) (h1 := h) rfl ?_
    refine A_go hM.1 rfl rfl ?_
    exact A_retz hM.1 rfl rfl rfl (by decide) (hq 1 hh)

set_option maxRecDepth 20000 in
set_option maxHeartbeats 4000000 in
theorem ct_X9_hasRoomFor {G : Gx} (v1 : Int) (h : Hp)   {P : Int → Prop} (hh : OK (X9_hasRoomFor v1 h) P) : CT G yX9_hasRoomFor M_X9_hasRoomFor 1 0 0 FN h [aR 1, aI v1] (fun r F' h' => F' = FN ∧ ∃ z, r = some (aI z) ∧ h' = h ∧ P z) :=
  CT.of (by decide +kernel) rfl (Nat.le_of_ble_eq_true rfl) k_X9_hasRoomFor fun k0 _ _ hM => c_X9_hasRoomFor hM v1 h (fun z hz => ⟨rfl, z, rfl, rfl, hz⟩) hh

theorem mi_X9_push : MIv yX9_push M_X9_push 1 := ⟨⟨(mem_GW 622 (by decide +kernel) rfl), (mem_GW 124 (by decide +kernel) rfl), by decide +kernel, by decide +kernel, by decide +kernel, by decide⟩, (mem_GW 620 (by decide +kernel) rfl), (mem_GW 621 (by decide +kernel) rfl)⟩
set_option maxRecDepth 20000 in
set_option maxHeartbeats 4000000 in
theorem c_X9_push_j24 {k0 : K0} {G : Gx} {Qp : Option AV → Fx → Hp → Prop} (hM : MB (KM k0 0 0 Qp) G M_X9_push 2) (v1 : Int) (v2 : Int) (h : Hp)   {P : ((Int × Hp) ⊕ (Hp)) → Prop} (hin : ∀ y : Int × Hp, P (.inl y) → ATk (KM k0 0 0 Qp) FN 0 0 M_X9_push 2 [some (aR 1), some (aI v1), some (aI y.1)] [] y.2) (hout0 : ∀ y : Hp, P (.inr y) → ATk (KM k0 0 0 Qp) FN 0 0 M_X9_push 26 [none, none, none] [] y) (hh : OK (X9_push_j24 v1 v2 h) P) : ATk (KM k0 0 0 Qp) FN 0 0 M_X9_push 24 [some (aR 1), some (aI v1), some (aI v2)] [] h := by
  unfold X9_push_j24 at hh
  refine A_blk hM.1 1 (lv1 := [some (aR 1), some (aI v1), some (aI (v2 + (-8)))]) (s1 := []) (h1 := h) rfl ?_
  refine A_go hM.1 rfl rfl ?_
  exact hin (v2 + (-8), h) hh

set_option maxRecDepth 20000 in
set_option maxHeartbeats 4000000 in
theorem c_X9_push_l2 {k0 : K0} {G : Gx} {Qp : Option AV → Fx → Hp → Prop} (hM : MB (KM k0 0 0 Qp) G M_X9_push 2) (v1 : Int) (x : Int × Hp)   {P : ((Int × Hp) ⊕ (Hp)) → Prop} (hin : ∀ y : Int × Hp, P (.inl y) → ATk (KM k0 0 0 Qp) FN 0 0 M_X9_push 2 [some (aR 1), some (aI v1), some (aI y.1)] [] y.2) (hout0 : ∀ y : Hp, P (.inr y) → ATk (KM k0 0 0 Qp) FN 0 0 M_X9_push 26 [none, none, none] [] y) (hh : OK (X9_push_l2 v1 x) P) : ATk (KM k0 0 0 Qp) FN 0 0 M_X9_push 2 [some (aR 1), some (aI v1), some (aI x.1)] [] x.2 := by
  unfold X9_push_l2 at hh
  refine A_blk hM.1 1 (lv1 := [some (aR 1), some (aI v1), some (aI x.1)]) (s1 := [aI x.1]) (h1 := x.2) rfl ?_
  refine A_ifc hM.1 rfl rfl (fun hc => ?_) (fun hc => ?_)
  · replace hh := OK_t hh hc
    refine A_mask [false, false, false] (lv1 := [none, none, none]) rfl ?_
    exact hout0 x.2 hh
  · replace hh := OK_f hh hc
    refine A_blk hM.1 3 (lv1 := [some (aR 1), some (aI v1), some (aI x.1)]) (s1 := [aI 200, aI (x.2 1 1)]) (h1 := x.2) rfl ?_
    refine A_icmp hM.1 rfl rfl (fun hc => ?_) (fun hc => ?_)
    · replace hh := OK_t hh hc
      exact c_X9_push_j24 hM v1 x.1 x.2 hin hout0 hh
    · replace hh := OK_f hh hc
      refine A_blk hM.1 9 (lv1 := [some (aR 1), some (aI v1), some (aI x.1)]) (s1 := [aI (and32 (ushr32 v1 x.1) 255), aI (x.2 1 1), aR 2]) (h1 := x.2) rfl ?_
      refine A_callSN (host := "QuotedBooks") hM rfl rfl (mem_NW 623 (by decide +kernel) rfl) mi_X11_put ms_X11_put (As := [aR 2, aI (x.2 1 1), aI (and32 (ushr32 v1 x.1) 255)]) (rest := []) (ct_X11_put 2 200 (x.2 1 1) (and32 (ushr32 v1 x.1) 255) x.2 rfl rfl (OK_bind hh)) (by decide) ⟨Nat.zero_le _, Nat.zero_le _⟩ rfl rfl (Nat.le_of_ble_eq_true rfl) (fun r F' h' hq1 => ?_)
      obtain ⟨rfl, rfl, hh⟩ := hq1
      obtain ⟨r1, rfl⟩ : ∃ z, z = h' := ⟨_, rfl⟩
      refine A_blk hM.1 6 (lv1 := [some (aR 1), some (aI v1), some (aI x.1)]) (s1 := []) (h1 := setH r1 1 1 ((r1 1 1) + 1)) rfl ?_
      exact c_X9_push_j24 hM v1 x.1 (setH r1 1 1 ((r1 1 1) + 1)) hin hout0 hh

set_option maxRecDepth 20000 in
set_option maxHeartbeats 4000000 in
theorem c_X9_push {k0 : K0} {G : Gx} {Qp : Option AV → Fx → Hp → Prop} (hM : MB (KM k0 0 0 Qp) G M_X9_push 2) (v1 : Int) (h : Hp)   {P : Hp → Prop} (hq : ∀ z : Hp, P z → Qp none FN z) (hh : OK (X9_push v1 h) P) : ATk (KM k0 0 0 Qp) FN 0 0 M_X9_push 0 [some (aR 1), some (aI v1), none] [] h := by
  unfold X9_push at hh
  refine A_blk hM.1 2 (lv1 := [some (aR 1), some (aI v1), some (aI 24)]) (s1 := []) (h1 := h) rfl ?_
  refine iter_ok (s := (24, h)) (Gp := fun z => ATk (KM k0 0 0 Qp) FN 0 0 M_X9_push 2 [some (aR 1), some (aI v1), some (aI z.1)] [] z.2) (E := fun z => ATk (KM k0 0 0 Qp) FN 0 0 M_X9_push 26 [none, none, none] [] z) (fun z P1 g1 g2 g3 => c_X9_push_l2 hM v1 z g2 g3 g1) (OK_bind hh) (fun x2 hh => ?_)
  exact A_retv hM.1 rfl rfl rfl (hq x2 hh)

set_option maxRecDepth 20000 in
set_option maxHeartbeats 4000000 in
theorem ct_X9_push {G : Gx} (v1 : Int) (h : Hp)   {P : Hp → Prop} (hh : OK (X9_push v1 h) P) : CT G yX9_push M_X9_push 2 0 0 FN h [aR 1, aI v1] (fun r F' h' => F' = FN ∧ r = none ∧ P h') :=
  CT.of (by decide +kernel) rfl (Nat.le_of_ble_eq_true rfl) k_X9_push fun k0 _ _ hM => c_X9_push hM v1 h (fun z hz => ⟨rfl, rfl, hz⟩) hh

theorem mi_X9_size : MIv yX9_size M_X9_size 0 := ⟨⟨(mem_GW 627 (by decide +kernel) rfl), (mem_GW 124 (by decide +kernel) rfl), by decide +kernel, by decide +kernel, by decide +kernel, by decide⟩, (mem_GW 625 (by decide +kernel) rfl), (mem_GW 626 (by decide +kernel) rfl)⟩
set_option maxRecDepth 20000 in
set_option maxHeartbeats 4000000 in
theorem c_X9_size {k0 : K0} {G : Gx} {Qp : Option AV → Fx → Hp → Prop} (hM : MB (KM k0 0 0 Qp) G M_X9_size 1) (h : Hp)   {P : Int → Prop} (hq : ∀ z : Int, P z → Qp (some (aI z)) FN h) (hh : OK (X9_size h) P) : ATk (KM k0 0 0 Qp) FN 0 0 M_X9_size 0 [some (aR 1)] [] h := by
  unfold X9_size at hh
  refine A_blk hM.1 2 (lv1 := [some (aR 1)]) (s1 := [aI (h 1 1)]) (h1 := h) rfl ?_
  exact A_reti hM.1 rfl rfl rfl (hq (h 1 1) hh)

set_option maxRecDepth 20000 in
set_option maxHeartbeats 4000000 in
theorem ct_X9_size {G : Gx} (h : Hp)   {P : Int → Prop} (hh : OK (X9_size h) P) : CT G yX9_size M_X9_size 1 0 0 FN h [aR 1] (fun r F' h' => F' = FN ∧ ∃ z, r = some (aI z) ∧ h' = h ∧ P z) :=
  CT.of (by decide +kernel) rfl (Nat.le_of_ble_eq_true rfl) k_X9_size fun k0 _ _ hM => c_X9_size hM h (fun z hz => ⟨rfl, z, rfl, rfl, hz⟩) hh

theorem mi_X11_feed : MIv yX11_feed M_X11_feed 5 := ⟨⟨(mem_GW 614 (by decide +kernel) rfl), (mem_GW 123 (by decide +kernel) rfl), by decide +kernel, by decide +kernel, by decide +kernel, by decide⟩, (mem_GW 612 (by decide +kernel) rfl), (mem_GW 613 (by decide +kernel) rfl)⟩
set_option maxRecDepth 20000 in
set_option maxHeartbeats 4000000 in
theorem c_X11_feed {k0 : K0} {G : Gx} {Qp : Option AV → Fx → Hp → Prop} (hM : MB (KM k0 0 0 Qp) G M_X11_feed 3) (v1 : Int) (v2 : Int) (v3 : Int) (v4 : Int) (v5 : Int) (h : Hp)   {P : (Int × Hp) → Prop} (hq : ∀ z : Int × Hp, P z → Qp (some (aI z.1)) FN z.2) (hh : OK (X11_feed v1 v2 v3 v4 v5 h) P) : ATk (KM k0 0 0 Qp) FN 0 0 M_X11_feed 0 [some (aR 0), some (aI v1), some (aI v2), some (aI v3), some (aI v4), some (aI v5)] [] h := by
  unfold X11_feed at hh
  refine A_blk hM.1 3 (lv1 := [some (aR 0), some (aI v1), some (aI v2), some (aI v3), some (aI v4), some (aI v5)]) (s1 := [aI 20, aR 1]) (h1 := h) rfl ?_
  refine A_callV hM rfl rfl (mem_GW 615 (by decide +kernel) rfl) mi_X9_hasRoomFor (As := [aI 20]) (rest := []) (ct_X9_hasRoomFor 20 h (OK_bind hh)) (by decide) ⟨Nat.zero_le _, Nat.zero_le _⟩ rfl rfl (Nat.le_of_ble_eq_true rfl) (by decide) rfl (by decide) rfl (fun r F' h' hq1 => ?_)
  obtain ⟨rfl, r1, rfl, e9, hh⟩ := hq1
  subst h'
  refine A_ifc hM.1 rfl rfl (fun hc => ?_) (fun hc => ?_)
  · replace hh := OK_t hh hc
    refine A_blk hM.1 3 (lv1 := [some (aR 0), some (aI v1), some (aI v2), some (aI v3), some (aI v4), some (aI v5)]) (s1 := [aI v1, aR 1]) (h1 := h) rfl ?_
    refine A_callV hM rfl rfl (mem_GW 619 (by decide +kernel) rfl) mi_X9_push (As := [aI v1]) (rest := []) (ct_X9_push v1 h (OK_bind hh)) (by decide) ⟨Nat.zero_le _, Nat.zero_le _⟩ rfl rfl (Nat.le_of_ble_eq_true rfl) (by decide) rfl (by decide) rfl (fun r F' h' hq1 => ?_)
    obtain ⟨rfl, rfl, hh⟩ := hq1
    obtain ⟨r2, rfl⟩ : ∃ z, z = h' := ⟨_, rfl⟩
    refine A_blk hM.1 3 (lv1 := [some (aR 0), some (aI v1), some (aI v2), some (aI v3), some (aI v4), some (aI v5)]) (s1 := [aI v2, aR 1]) (h1 := r2) rfl ?_
    refine A_callV hM rfl rfl (mem_GW 619 (by decide +kernel) rfl) mi_X9_push (As := [aI v2]) (rest := []) (ct_X9_push v2 r2 (OK_bind hh)) (by decide) ⟨Nat.zero_le _, Nat.zero_le _⟩ rfl rfl (Nat.le_of_ble_eq_true rfl) (by decide) rfl (by decide) rfl (fun r F' h' hq1 => ?_)
    obtain ⟨rfl, rfl, hh⟩ := hq1
    obtain ⟨r3, rfl⟩ : ∃ z, z = h' := ⟨_, rfl⟩
    refine A_blk hM.1 3 (lv1 := [some (aR 0), some (aI v1), some (aI v2), some (aI v3), some (aI v4), some (aI v5)]) (s1 := [aI v3, aR 1]) (h1 := r3) rfl ?_
    refine A_callV hM rfl rfl (mem_GW 619 (by decide +kernel) rfl) mi_X9_push (As := [aI v3]) (rest := []) (ct_X9_push v3 r3 (OK_bind hh)) (by decide) ⟨Nat.zero_le _, Nat.zero_le _⟩ rfl rfl (Nat.le_of_ble_eq_true rfl) (by decide) rfl (by decide) rfl (fun r F' h' hq1 => ?_)
    obtain ⟨rfl, rfl, hh⟩ := hq1
    obtain ⟨r4, rfl⟩ : ∃ z, z = h' := ⟨_, rfl⟩
    refine A_blk hM.1 3 (lv1 := [some (aR 0), some (aI v1), some (aI v2), some (aI v3), some (aI v4), some (aI v5)]) (s1 := [aI v4, aR 1]) (h1 := r4) rfl ?_
    refine A_callV hM rfl rfl (mem_GW 619 (by decide +kernel) rfl) mi_X9_push (As := [aI v4]) (rest := []) (ct_X9_push v4 r4 (OK_bind hh)) (by decide) ⟨Nat.zero_le _, Nat.zero_le _⟩ rfl rfl (Nat.le_of_ble_eq_true rfl) (by decide) rfl (by decide) rfl (fun r F' h' hq1 => ?_)
    obtain ⟨rfl, rfl, hh⟩ := hq1
    obtain ⟨r5, rfl⟩ : ∃ z, z = h' := ⟨_, rfl⟩
    refine A_blk hM.1 3 (lv1 := [some (aR 0), some (aI v1), some (aI v2), some (aI v3), some (aI v4), some (aI v5)]) (s1 := [aI v5, aR 1]) (h1 := r5) rfl ?_
    refine A_callV hM rfl rfl (mem_GW 619 (by decide +kernel) rfl) mi_X9_push (As := [aI v5]) (rest := []) (ct_X9_push v5 r5 (OK_bind hh)) (by decide) ⟨Nat.zero_le _, Nat.zero_le _⟩ rfl rfl (Nat.le_of_ble_eq_true rfl) (by decide) rfl (by decide) rfl (fun r F' h' hq1 => ?_)
    obtain ⟨rfl, rfl, hh⟩ := hq1
    obtain ⟨r6, rfl⟩ : ∃ z, z = h' := ⟨_, rfl⟩
    refine A_blk hM.1 2 (lv1 := [some (aR 0), some (aI v1), some (aI v2), some (aI v3), some (aI v4), some (aI v5)]) (s1 := [aR 1]) (h1 := r6) rfl ?_
    refine A_callV hM rfl rfl (mem_GW 624 (by decide +kernel) rfl) mi_X9_size (As := []) (rest := []) (ct_X9_size r6 (OK_bind hh)) (by decide) ⟨Nat.zero_le _, Nat.zero_le _⟩ rfl rfl (Nat.le_of_ble_eq_true rfl) (by decide) rfl (by decide) rfl (fun r F' h' hq1 => ?_)
    obtain ⟨rfl, r7, rfl, e9, hh⟩ := hq1
    subst h'
    exact A_reti hM.1 rfl rfl rfl (hq (r7, r6) hh)
  · replace hh := OK_f hh hc
    refine A_blk hM.1 1 (lv1 := [some (aR 0), some (aI v1), some (aI v2), some (aI v3), some (aI v4), some (aI v5)]) (s1 := [aI (-1)]) (h1 := h) rfl ?_
    exact A_reti hM.1 rfl rfl rfl (hq ((-1), h) hh)

set_option maxRecDepth 20000 in
set_option maxHeartbeats 4000000 in
theorem ct_X11_feed {G : Gx} (v1 : Int) (v2 : Int) (v3 : Int) (v4 : Int) (v5 : Int) (h : Hp)   {P : (Int × Hp) → Prop} (hh : OK (X11_feed v1 v2 v3 v4 v5 h) P) : CT G yX11_feed M_X11_feed 3 0 0 FN h [aR 0, aI v1, aI v2, aI v3, aI v4, aI v5] (fun r F' h' => F' = FN ∧ ∃ z, r = some (aI z.1) ∧ h' = z.2 ∧ P z) :=
  CT.of (by decide +kernel) rfl (Nat.le_of_ble_eq_true rfl) k_X11_feed fun k0 _ _ hM => c_X11_feed hM v1 v2 v3 v4 v5 h (fun z hz => ⟨rfl, z, rfl, rfl, hz⟩) hh

theorem mi_X7_isWork : MIv yX7_isWork M_X7_isWork 1 := ⟨⟨(mem_GW 635 (by decide +kernel) rfl), (mem_GW 125 (by decide +kernel) rfl), by decide +kernel, by decide +kernel, by decide +kernel, by decide⟩, (mem_GW 633 (by decide +kernel) rfl), (mem_GW 634 (by decide +kernel) rfl)⟩
set_option maxRecDepth 20000 in
set_option maxHeartbeats 4000000 in
theorem c_X7_isWork {k0 : K0} {G : Gx} {Qp : Option AV → Fx → Hp → Prop} (hM : MB (KM k0 0 0 Qp) G M_X7_isWork 1) (v1 : Int) (h : Hp)   {P : Int → Prop} (hq : ∀ z : Int, P z → Qp (some (aI z)) FN h) (hh : OK (X7_isWork v1 h) P) : ATk (KM k0 0 0 Qp) FN 0 0 M_X7_isWork 0 [some (aR 3), some (aI v1)] [] h := by
  unfold X7_isWork at hh
  refine A_blk hM.1 1 (lv1 := [some (aR 3), some (aI v1)]) (s1 := [aI v1]) (h1 := h) rfl ?_
  refine A_ifc hM.1 rfl rfl (fun hc => ?_) (fun hc => ?_)
  · replace hh := OK_t hh hc
    refine A_blk hM.1 1 (lv1 := [some (aR 3), some (aI v1)]) (s1 := [aI 0]) (h1 := h) rfl ?_
    exact A_retz hM.1 rfl rfl rfl (by decide) (hq 0 hh)
  · replace hh := OK_f hh hc
    refine A_blk hM.1 3 (lv1 := [some (aR 3), some (aI v1)]) (s1 := [aI (h 3 3), aI v1]) (h1 := h) rfl ?_
    refine A_icmp hM.1 rfl rfl (fun hc => ?_) (fun hc => ?_)
    · replace hh := OK_t hh hc
      refine A_blk hM.1 1 (lv1 := [some (aR 3), some (aI v1)]) (s1 := [aI 0]) (h1 := h) rfl ?_
      exact A_retz hM.1 rfl rfl rfl (by decide) (hq 0 hh)
    · replace hh := OK_f hh hc
      refine A_blk hM.1 1 (lv1 := [some (aR 3), some (aI v1)]) (s1 := [aI 1]) (h1 := h) rfl ?_
      refine A_go hM.1 rfl rfl ?_
      exact A_retz hM.1 rfl rfl rfl (by decide) (hq 1 hh)

set_option maxRecDepth 20000 in
set_option maxHeartbeats 4000000 in
theorem ct_X7_isWork {G : Gx} (v1 : Int) (h : Hp)   {P : Int → Prop} (hh : OK (X7_isWork v1 h) P) : CT G yX7_isWork M_X7_isWork 1 0 0 FN h [aR 3, aI v1] (fun r F' h' => F' = FN ∧ ∃ z, r = some (aI z) ∧ h' = h ∧ P z) :=
  CT.of (by decide +kernel) rfl (Nat.le_of_ble_eq_true rfl) k_X7_isWork fun k0 _ _ hM => c_X7_isWork hM v1 h (fun z hz => ⟨rfl, z, rfl, rfl, hz⟩) hh

theorem mi_X11_at : MIs yX11_at M_X11_at 2 := ⟨(mem_GW 643 (by decide +kernel) rfl), (mem_GW 123 (by decide +kernel) rfl), by decide +kernel, by decide +kernel, by decide +kernel, by decide⟩
theorem ms_X11_at : .static yX11_at ∈ GW := (mem_GW 642 (by decide +kernel) rfl)
set_option maxRecDepth 20000 in
set_option maxHeartbeats 4000000 in
theorem c_X11_at {k0 : K0} {G : Gx} {Qp : Option AV → Fx → Hp → Prop} (hM : MB (KM k0 0 0 Qp) G M_X11_at 1) (a : Nat) (n : Nat) (v1 : Int) (h : Hp)  (hk : kd a = 14) (hn : ln a = n) {P : Int → Prop} (hq : ∀ z : Int, P z → Qp (some (aI z)) FN h) (hh : OK (X11_at a n v1 h) P) : ATk (KM k0 0 0 Qp) FN 0 0 M_X11_at 0 [some (aR a), some (aI v1)] [] h := by
  unfold X11_at at hh
  refine A_blk hM.1 1 (lv1 := [some (aR a), some (aI v1)]) (s1 := [aI v1]) (h1 := h) rfl ?_
  refine A_ifc hM.1 rfl rfl (fun hc => ?_) (fun hc => ?_)
  · replace hh := OK_t hh hc
    refine A_blk hM.1 1 (lv1 := [some (aR a), some (aI v1)]) (s1 := [aI 0]) (h1 := h) rfl ?_
    exact A_reti hM.1 rfl rfl rfl (hq 0 hh)
  · replace hh := OK_f hh hc
    refine A_blk hM.1 2 (lv1 := [some (aR a), some (aI v1)]) (s1 := [aR a, aI v1]) (h1 := h) rfl ?_
    refine A_alen hM.1 rfl (Or.inl hk) hn (kd_in hk (by decide)) rfl ?_
    refine A_icmp hM.1 rfl rfl (fun hc => ?_) (fun hc => ?_)
    · replace hh := OK_t hh hc
      refine A_blk hM.1 1 (lv1 := [some (aR a), some (aI v1)]) (s1 := [aI 0]) (h1 := h) rfl ?_
      exact A_reti hM.1 rfl rfl rfl (hq 0 hh)
    · replace hh := OK_f hh hc
      refine A_blk hM.1 2 (lv1 := [some (aR a), some (aI v1)]) (s1 := [aI v1, aR a]) (h1 := h) rfl ?_
      obtain ⟨g1, hh⟩ := OK_g hh
      refine A_ald hM.1 rfl (Or.inl ⟨rfl, hk⟩) hn (kd_in hk (by decide)) rfl g1 ?_
      refine A_go hM.1 rfl rfl ?_
      exact A_reti hM.1 rfl rfl rfl (hq (h a ((w32 v1).toNat)) hh)

set_option maxRecDepth 20000 in
set_option maxHeartbeats 4000000 in
theorem ct_X11_at {G : Gx} (a : Nat) (n : Nat) (v1 : Int) (h : Hp)  (hk : kd a = 14) (hn : ln a = n) {P : Int → Prop} (hh : OK (X11_at a n v1 h) P) : CT G yX11_at M_X11_at 1 0 0 FN h [aR a, aI v1] (fun r F' h' => F' = FN ∧ ∃ z, r = some (aI z) ∧ h' = h ∧ P z) :=
  CT.of (by decide +kernel) rfl (Nat.le_of_ble_eq_true rfl) k_X11_at fun k0 _ _ hM => c_X11_at hM a n v1 h hk hn (fun z hz => ⟨rfl, z, rfl, rfl, hz⟩) hh

theorem mi_X7_isLeft : MIv yX7_isLeft M_X7_isLeft 1 := ⟨⟨(mem_GW 639 (by decide +kernel) rfl), (mem_GW 125 (by decide +kernel) rfl), by decide +kernel, by decide +kernel, by decide +kernel, by decide⟩, (mem_GW 637 (by decide +kernel) rfl), (mem_GW 638 (by decide +kernel) rfl)⟩
set_option maxRecDepth 20000 in
set_option maxHeartbeats 4000000 in
theorem c_X7_isLeft {k0 : K0} {G : Gx} {Qp : Option AV → Fx → Hp → Prop} (hM : MB (KM k0 0 0 Qp) G M_X7_isLeft 2) (v1 : Int) (h : Hp)   {P : Int → Prop} (hq : ∀ z : Int, P z → Qp (some (aI z)) FN h) (hh : OK (X7_isLeft v1 h) P) : ATk (KM k0 0 0 Qp) FN 0 0 M_X7_isLeft 0 [some (aR 3), some (aI v1)] [] h := by
  unfold X7_isLeft at hh
  refine A_blk hM.1 2 (lv1 := [some (aR 3), some (aI v1)]) (s1 := [aI v1, aR 3]) (h1 := h) rfl ?_
  refine A_callV hM rfl rfl (mem_GW 640 (by decide +kernel) rfl) mi_X7_isWork (As := [aI v1]) (rest := []) (ct_X7_isWork v1 h (OK_bind hh)) (by decide) ⟨Nat.zero_le _, Nat.zero_le _⟩ rfl rfl (Nat.le_of_ble_eq_true rfl) (by decide) rfl (by decide) rfl (fun r F' h' hq1 => ?_)
  obtain ⟨rfl, r1, rfl, e9, hh⟩ := hq1
  subst h'
  refine A_ifc hM.1 rfl rfl (fun hc => ?_) (fun hc => ?_)
  · replace hh := OK_t hh hc
    refine A_blk hM.1 1 (lv1 := [some (aR 3), some (aI v1)]) (s1 := [aI 0]) (h1 := h) rfl ?_
    exact A_retz hM.1 rfl rfl rfl (by decide) (hq 0 hh)
  · replace hh := OK_f hh hc
    refine A_blk hM.1 3 (lv1 := [some (aR 3), some (aI v1)]) (s1 := [aI v1, aR 8]) (h1 := h) rfl ?_
    refine A_callSN (host := "QuotedBooks") hM rfl rfl (mem_NW 641 (by decide +kernel) rfl) mi_X11_at ms_X11_at (As := [aR 8, aI v1]) (rest := []) (ct_X11_at 8 8 v1 h rfl rfl (OK_bind hh)) (by decide) ⟨Nat.zero_le _, Nat.zero_le _⟩ rfl rfl (Nat.le_of_ble_eq_true rfl) (fun r F' h' hq1 => ?_)
    obtain ⟨rfl, r2, rfl, e9, hh⟩ := hq1
    subst h'
    refine A_ifc hM.1 rfl rfl (fun hc => ?_) (fun hc => ?_)
    · replace hh := OK_t hh hc
      refine A_blk hM.1 1 (lv1 := [some (aR 3), some (aI v1)]) (s1 := [aI 0]) (h1 := h) rfl ?_
      exact A_retz hM.1 rfl rfl rfl (by decide) (hq 0 hh)
    · replace hh := OK_f hh hc
      refine A_blk hM.1 1 (lv1 := [some (aR 3), some (aI v1)]) (s1 := [aI 1]) (h1 := h) rfl ?_
      refine A_go hM.1 rfl rfl ?_
      exact A_retz hM.1 rfl rfl rfl (by decide) (hq 1 hh)

set_option maxRecDepth 20000 in
set_option maxHeartbeats 4000000 in
theorem ct_X7_isLeft {G : Gx} (v1 : Int) (h : Hp)   {P : Int → Prop} (hh : OK (X7_isLeft v1 h) P) : CT G yX7_isLeft M_X7_isLeft 2 0 0 FN h [aR 3, aI v1] (fun r F' h' => F' = FN ∧ ∃ z, r = some (aI z) ∧ h' = h ∧ P z) :=
  CT.of (by decide +kernel) rfl (Nat.le_of_ble_eq_true rfl) k_X7_isLeft fun k0 _ _ hM => c_X7_isLeft hM v1 h (fun z hz => ⟨rfl, z, rfl, rfl, hz⟩) hh

theorem mi_X9_holds : MIv yX9_holds M_X9_holds 2 := ⟨⟨(mem_GW 647 (by decide +kernel) rfl), (mem_GW 124 (by decide +kernel) rfl), by decide +kernel, by decide +kernel, by decide +kernel, by decide⟩, (mem_GW 645 (by decide +kernel) rfl), (mem_GW 646 (by decide +kernel) rfl)⟩
set_option maxRecDepth 20000 in
set_option maxHeartbeats 4000000 in
theorem c_X9_holds {k0 : K0} {G : Gx} {Qp : Option AV → Fx → Hp → Prop} (hM : MB (KM k0 0 0 Qp) G M_X9_holds 1) (v1 : Int) (v2 : Int) (h : Hp)   {P : Int → Prop} (hq : ∀ z : Int, P z → Qp (some (aI z)) FN h) (hh : OK (X9_holds v1 v2 h) P) : ATk (KM k0 0 0 Qp) FN 0 0 M_X9_holds 0 [some (aR 1), some (aI v1), some (aI v2)] [] h := by
  unfold X9_holds at hh
  refine A_blk hM.1 1 (lv1 := [some (aR 1), some (aI v1), some (aI v2)]) (s1 := [aI v1]) (h1 := h) rfl ?_
  refine A_ifc hM.1 rfl rfl (fun hc => ?_) (fun hc => ?_)
  · replace hh := OK_t hh hc
    refine A_blk hM.1 1 (lv1 := [some (aR 1), some (aI v1), some (aI v2)]) (s1 := [aI 0]) (h1 := h) rfl ?_
    exact A_retz hM.1 rfl rfl rfl (by decide) (hq 0 hh)
  · replace hh := OK_f hh hc
    refine A_blk hM.1 9 (lv1 := [some (aR 1), some (aI v1), some (aI v2)]) (s1 := [aI (cmp64 ((w32 v1) * (w32 v2)) (w32 (h 1 1)))]) (h1 := h) rfl ?_
    refine A_ifc hM.1 rfl rfl (fun hc => ?_) (fun hc => ?_)
    · replace hh := OK_t hh hc
      refine A_blk hM.1 1 (lv1 := [some (aR 1), some (aI v1), some (aI v2)]) (s1 := [aI 0]) (h1 := h) rfl ?_
      exact A_retz hM.1 rfl rfl rfl (by decide) (hq 0 hh)
    · replace hh := OK_f hh hc
      refine A_blk hM.1 1 (lv1 := [some (aR 1), some (aI v1), some (aI v2)]) (s1 := [aI 1]) (h1 := h) rfl ?_
      refine A_go hM.1 rfl rfl ?_
      exact A_retz hM.1 rfl rfl rfl (by decide) (hq 1 hh)

set_option maxRecDepth 20000 in
set_option maxHeartbeats 4000000 in
theorem ct_X9_holds {G : Gx} (v1 : Int) (v2 : Int) (h : Hp)   {P : Int → Prop} (hh : OK (X9_holds v1 v2 h) P) : CT G yX9_holds M_X9_holds 1 0 0 FN h [aR 1, aI v1, aI v2] (fun r F' h' => F' = FN ∧ ∃ z, r = some (aI z) ∧ h' = h ∧ P z) :=
  CT.of (by decide +kernel) rfl (Nat.le_of_ble_eq_true rfl) k_X9_holds fun k0 _ _ hM => c_X9_holds hM v1 v2 h (fun z hz => ⟨rfl, z, rfl, rfl, hz⟩) hh

theorem mi_X9_byteAt : MIv yX9_byteAt M_X9_byteAt 1 := ⟨⟨(mem_GW 655 (by decide +kernel) rfl), (mem_GW 124 (by decide +kernel) rfl), by decide +kernel, by decide +kernel, by decide +kernel, by decide⟩, (mem_GW 653 (by decide +kernel) rfl), (mem_GW 654 (by decide +kernel) rfl)⟩
set_option maxRecDepth 20000 in
set_option maxHeartbeats 4000000 in
theorem c_X9_byteAt {k0 : K0} {G : Gx} {Qp : Option AV → Fx → Hp → Prop} (hM : MB (KM k0 0 0 Qp) G M_X9_byteAt 1) (v1 : Int) (h : Hp)   {P : Int → Prop} (hq : ∀ z : Int, P z → Qp (some (aI z)) FN h) (hh : OK (X9_byteAt v1 h) P) : ATk (KM k0 0 0 Qp) FN 0 0 M_X9_byteAt 0 [some (aR 1), some (aI v1)] [] h := by
  unfold X9_byteAt at hh
  refine A_blk hM.1 1 (lv1 := [some (aR 1), some (aI v1)]) (s1 := [aI v1]) (h1 := h) rfl ?_
  refine A_ifc hM.1 rfl rfl (fun hc => ?_) (fun hc => ?_)
  · replace hh := OK_t hh hc
    refine A_blk hM.1 1 (lv1 := [some (aR 1), some (aI v1)]) (s1 := [aI (-1)]) (h1 := h) rfl ?_
    exact A_reti hM.1 rfl rfl rfl (hq (-1) hh)
  · replace hh := OK_f hh hc
    refine A_blk hM.1 3 (lv1 := [some (aR 1), some (aI v1)]) (s1 := [aI (h 1 1), aI v1]) (h1 := h) rfl ?_
    refine A_icmp hM.1 rfl rfl (fun hc => ?_) (fun hc => ?_)
    · replace hh := OK_t hh hc
      refine A_blk hM.1 1 (lv1 := [some (aR 1), some (aI v1)]) (s1 := [aI (-1)]) (h1 := h) rfl ?_
      exact A_reti hM.1 rfl rfl rfl (hq (-1) hh)
    · replace hh := OK_f hh hc
      refine A_blk hM.1 2 (lv1 := [some (aR 1), some (aI v1)]) (s1 := [aI 200, aI v1]) (h1 := h) rfl ?_
      refine A_icmp hM.1 rfl rfl (fun hc => ?_) (fun hc => ?_)
      · replace hh := OK_t hh hc
        refine A_blk hM.1 1 (lv1 := [some (aR 1), some (aI v1)]) (s1 := [aI (-1)]) (h1 := h) rfl ?_
        exact A_reti hM.1 rfl rfl rfl (hq (-1) hh)
      · replace hh := OK_f hh hc
        refine A_blk hM.1 3 (lv1 := [some (aR 1), some (aI v1)]) (s1 := [aI v1, aR 2]) (h1 := h) rfl ?_
        obtain ⟨g1, hh⟩ := OK_g hh
        refine A_ald hM.1 rfl (Or.inl ⟨rfl, rfl⟩) rfl (by decide) rfl g1 ?_
        refine A_go hM.1 rfl rfl ?_
        exact A_reti hM.1 rfl rfl rfl (hq (h 2 ((w32 v1).toNat)) hh)

set_option maxRecDepth 20000 in
set_option maxHeartbeats 4000000 in
theorem ct_X9_byteAt {G : Gx} (v1 : Int) (h : Hp)   {P : Int → Prop} (hh : OK (X9_byteAt v1 h) P) : CT G yX9_byteAt M_X9_byteAt 1 0 0 FN h [aR 1, aI v1] (fun r F' h' => F' = FN ∧ ∃ z, r = some (aI z) ∧ h' = h ∧ P z) :=
  CT.of (by decide +kernel) rfl (Nat.le_of_ble_eq_true rfl) k_X9_byteAt fun k0 _ _ hM => c_X9_byteAt hM v1 h (fun z hz => ⟨rfl, z, rfl, rfl, hz⟩) hh

theorem mi_X7_tellWords : MIv yX7_tellWords M_X7_tellWords 3 := ⟨⟨(mem_GW 651 (by decide +kernel) rfl), (mem_GW 125 (by decide +kernel) rfl), by decide +kernel, by decide +kernel, by decide +kernel, by decide⟩, (mem_GW 649 (by decide +kernel) rfl), (mem_GW 650 (by decide +kernel) rfl)⟩
set_option maxRecDepth 20000 in
set_option maxHeartbeats 4000000 in
theorem c_X7_tellWords_l4 {k0 : K0} {G : Gx} {Qp : Option AV → Fx → Hp → Prop} (hM : MB (KM k0 0 0 Qp) G M_X7_tellWords 2) (v1 : Int) (v3 : Int) (x : Int × Int × Hp)   {P : ((Int × Int × Hp) ⊕ ((Hp) ⊕ (Hp))) → Prop} (hin : ∀ y : Int × Int × Hp, P (.inl y) → ATk (KM k0 0 0 Qp) FN 0 0 M_X7_tellWords 4 [some (aR 3), some (aI v1), some (aR 1), some (aI v3), some (aI y.1), some (aI y.2.1), none, none] [] y.2.2) (hout0 : ∀ y : Hp, P (.inr (.inl y)) → ATk (KM k0 0 0 Qp) FN 0 0 M_X7_tellWords 37 [none, none, none, none, none, none, none, none] [] y) (hout1 : ∀ y : Hp, P (.inr (.inr y)) → ATk (KM k0 0 0 Qp) FN 0 0 M_X7_tellWords 61 [some (aR 3), some (aI v1), none, some (aI v3), none, none, none, none] [] y) (hh : OK (X7_tellWords_l4 v1 v3 x) P) : ATk (KM k0 0 0 Qp) FN 0 0 M_X7_tellWords 4 [some (aR 3), some (aI v1), some (aR 1), some (aI v3), some (aI x.1), some (aI x.2.1), none, none] [] x.2.2 := by
  unfold X7_tellWords_l4 at hh
  refine A_blk hM.1 2 (lv1 := [some (aR 3), some (aI v1), some (aR 1), some (aI v3), some (aI x.1), some (aI x.2.1), none, none]) (s1 := [aI v3, aI x.2.1]) (h1 := x.2.2) rfl ?_
  refine A_icmp hM.1 rfl rfl (fun hc => ?_) (fun hc => ?_)
  · replace hh := OK_t hh hc
    refine A_mask [true, true, false, true, false, false, true, true] (lv1 := [some (aR 3), some (aI v1), none, some (aI v3), none, none, none, none]) rfl ?_
    exact hout1 x.2.2 hh
  · replace hh := OK_f hh hc
    refine A_blk hM.1 2 (lv1 := [some (aR 3), some (aI v1), some (aR 1), some (aI v3), some (aI x.1), some (aI x.2.1), none, none]) (s1 := [aI 40, aI x.2.1]) (h1 := x.2.2) rfl ?_
    refine A_icmp hM.1 rfl rfl (fun hc => ?_) (fun hc => ?_)
    · replace hh := OK_t hh hc
      refine A_mask [true, true, false, true, false, false, true, true] (lv1 := [some (aR 3), some (aI v1), none, some (aI v3), none, none, none, none]) rfl ?_
      exact hout1 x.2.2 hh
    · replace hh := OK_f hh hc
      refine A_blk hM.1 4 (lv1 := [some (aR 3), some (aI v1), some (aR 1), some (aI v3), some (aI x.1), some (aI x.2.1), none, none]) (s1 := [aI (2 * x.2.1), aR 1]) (h1 := x.2.2) rfl ?_
      refine A_callV hM rfl rfl (mem_GW 652 (by decide +kernel) rfl) mi_X9_byteAt (As := [aI (2 * x.2.1)]) (rest := []) (ct_X9_byteAt (2 * x.2.1) x.2.2 (OK_bind hh)) (by decide) ⟨Nat.zero_le _, Nat.zero_le _⟩ rfl rfl (Nat.le_of_ble_eq_true rfl) (by decide) rfl (by decide) rfl (fun r F' h' hq1 => ?_)
      obtain ⟨rfl, r1, rfl, e9, hh⟩ := hq1
      subst h'
      refine A_blk hM.1 7 (lv1 := [some (aR 3), some (aI v1), some (aR 1), some (aI v3), some (aI x.1), some (aI x.2.1), some (aI r1), none]) (s1 := [aI ((2 * x.2.1) + 1), aR 1]) (h1 := x.2.2) rfl ?_
      refine A_callV hM rfl rfl (mem_GW 652 (by decide +kernel) rfl) mi_X9_byteAt (As := [aI ((2 * x.2.1) + 1)]) (rest := []) (ct_X9_byteAt ((2 * x.2.1) + 1) x.2.2 (OK_bind hh)) (by decide) ⟨Nat.zero_le _, Nat.zero_le _⟩ rfl rfl (Nat.le_of_ble_eq_true rfl) (by decide) rfl (by decide) rfl (fun r F' h' hq1 => ?_)
      obtain ⟨rfl, r2, rfl, e9, hh⟩ := hq1
      subst h'
      refine A_blk hM.1 4 (lv1 := [some (aR 3), some (aI v1), some (aR 1), some (aI v3), some (aI x.1), some (aI x.2.1), some (aI r1), some (aI r2)]) (s1 := [aI 63, aI 0, aI r1]) (h1 := x.2.2) rfl ?_
      refine A_callSN (host := "QuotedBooks") hM rfl rfl (mem_NW 656 (by decide +kernel) rfl) mi_X11_within ms_X11_within (As := [aI r1, aI 0, aI 63]) (rest := []) (ct_X11_within r1 0 63 x.2.2 (OK_bind hh)) (by decide) ⟨Nat.zero_le _, Nat.zero_le _⟩ rfl rfl (Nat.le_of_ble_eq_true rfl) (fun r F' h' hq1 => ?_)
      obtain ⟨rfl, r3, rfl, e9, hh⟩ := hq1
      subst h'
      refine A_ifc hM.1 rfl rfl (fun hc => ?_) (fun hc => ?_)
      · replace hh := OK_t hh hc
        refine A_mask [false, false, false, false, false, false, false, false] (lv1 := [none, none, none, none, none, none, none, none]) rfl ?_
        exact hout0 x.2.2 hh
      · replace hh := OK_f hh hc
        refine A_blk hM.1 5 (lv1 := [some (aR 3), some (aI v1), some (aR 1), some (aI v3), some (aI x.1), some (aI x.2.1), some (aI r1), some (aI r2)]) (s1 := [aI v1, aR 7, aI x.1, aI r2]) (h1 := x.2.2) rfl ?_
        refine A_callSN (host := "QuotedBooks") hM rfl rfl (mem_NW 641 (by decide +kernel) rfl) mi_X11_at ms_X11_at (As := [aR 7, aI v1]) (rest := [aI x.1, aI r2]) (ct_X11_at 7 8 v1 x.2.2 rfl rfl (OK_bind hh)) (by decide) ⟨Nat.zero_le _, Nat.zero_le _⟩ rfl rfl (Nat.le_of_ble_eq_true rfl) (fun r F' h' hq1 => ?_)
        obtain ⟨rfl, r4, rfl, e9, hh⟩ := hq1
        subst h'
        refine A_callSN (host := "QuotedBooks") hM rfl rfl (mem_NW 656 (by decide +kernel) rfl) mi_X11_within ms_X11_within (As := [aI r2, aI x.1, aI r4]) (rest := []) (ct_X11_within r2 x.1 r4 x.2.2 (OK_bind hh)) (by decide) ⟨Nat.zero_le _, Nat.zero_le _⟩ rfl rfl (Nat.le_of_ble_eq_true rfl) (fun r F' h' hq1 => ?_)
        obtain ⟨rfl, r5, rfl, e9, hh⟩ := hq1
        subst h'
        refine A_ifc hM.1 rfl rfl (fun hc => ?_) (fun hc => ?_)
        · replace hh := OK_t hh hc
          refine A_blk hM.1 8 (lv1 := [some (aR 3), some (aI v1), some (aR 1), some (aI v3), some (aI x.1), some (aI x.2.1), some (aI r1), some (aI r2)]) (s1 := [aI r1, aI ((v1 * 40) + x.2.1), aR 9]) (h1 := x.2.2) rfl ?_
          refine A_callSN (host := "QuotedBooks") hM rfl rfl (mem_NW 583 (by decide +kernel) rfl) mi_X11_put ms_X11_put (As := [aR 9, aI ((v1 * 40) + x.2.1), aI r1]) (rest := []) (ct_X11_put 9 320 ((v1 * 40) + x.2.1) r1 x.2.2 rfl rfl (OK_bind hh)) (by decide) ⟨Nat.zero_le _, Nat.zero_le _⟩ rfl rfl (Nat.le_of_ble_eq_true rfl) (fun r F' h' hq1 => ?_)
          obtain ⟨rfl, rfl, hh⟩ := hq1
          obtain ⟨r6, rfl⟩ : ∃ z, z = h' := ⟨_, rfl⟩
          refine A_blk hM.1 8 (lv1 := [some (aR 3), some (aI v1), some (aR 1), some (aI v3), some (aI x.1), some (aI x.2.1), some (aI r1), some (aI r2)]) (s1 := [aI r2, aI ((v1 * 40) + x.2.1), aR 10]) (h1 := r6) rfl ?_
          refine A_callSN (host := "QuotedBooks") hM rfl rfl (mem_NW 583 (by decide +kernel) rfl) mi_X11_put ms_X11_put (As := [aR 10, aI ((v1 * 40) + x.2.1), aI r2]) (rest := []) (ct_X11_put 10 320 ((v1 * 40) + x.2.1) r2 r6 rfl rfl (OK_bind hh)) (by decide) ⟨Nat.zero_le _, Nat.zero_le _⟩ rfl rfl (Nat.le_of_ble_eq_true rfl) (fun r F' h' hq1 => ?_)
          obtain ⟨rfl, rfl, hh⟩ := hq1
          obtain ⟨r7, rfl⟩ : ∃ z, z = h' := ⟨_, rfl⟩
          refine A_blk hM.1 3 (lv1 := [some (aR 3), some (aI v1), some (aR 1), some (aI v3), some (aI r2), some (aI (x.2.1 + 1)), some (aI r1), some (aI r2)]) (s1 := []) (h1 := r7) rfl ?_
          refine A_go hM.1 rfl rfl ?_
          refine A_mask [true, true, true, true, true, true, false, false] (lv1 := [some (aR 3), some (aI v1), some (aR 1), some (aI v3), some (aI r2), some (aI (x.2.1 + 1)), none, none]) rfl ?_
          exact hin (r2, x.2.1 + 1, r7) hh
        · replace hh := OK_f hh hc
          refine A_mask [false, false, false, false, false, false, false, false] (lv1 := [none, none, none, none, none, none, none, none]) rfl ?_
          exact hout0 x.2.2 hh

set_option maxRecDepth 20000 in
set_option maxHeartbeats 4000000 in
theorem c_X7_tellWords {k0 : K0} {G : Gx} {Qp : Option AV → Fx → Hp → Prop} (hM : MB (KM k0 0 0 Qp) G M_X7_tellWords 2) (v1 : Int) (v3 : Int) (h : Hp)   {P : (Int × Hp) → Prop} (hq : ∀ z : Int × Hp, P z → Qp (some (aI z.1)) FN z.2) (hh : OK (X7_tellWords v1 v3 h) P) : ATk (KM k0 0 0 Qp) FN 0 0 M_X7_tellWords 0 [some (aR 3), some (aI v1), some (aR 1), some (aI v3), none, none, none, none] [] h := by
  unfold X7_tellWords at hh
  refine A_blk hM.1 4 (lv1 := [some (aR 3), some (aI v1), some (aR 1), some (aI v3), some (aI 1), some (aI 0), none, none]) (s1 := []) (h1 := h) rfl ?_
  refine iter_ok (s := (1, 0, h)) (Gp := fun z => ATk (KM k0 0 0 Qp) FN 0 0 M_X7_tellWords 4 [some (aR 3), some (aI v1), some (aR 1), some (aI v3), some (aI z.1), some (aI z.2.1), none, none] [] z.2.2) (E := fun z => (∀ y, z = (.inl y) → ATk (KM k0 0 0 Qp) FN 0 0 M_X7_tellWords 37 [none, none, none, none, none, none, none, none] [] y) ∧ (∀ y, z = (.inr y) → ATk (KM k0 0 0 Qp) FN 0 0 M_X7_tellWords 61 [some (aR 3), some (aI v1), none, some (aI v3), none, none, none, none] [] y)) (fun z P1 g1 g2 g3 => c_X7_tellWords_l4 hM v1 v3 z g2 (fun y hy => (g3 (.inl y) hy).1 y rfl) (fun y hy => (g3 (.inr y) hy).2 y rfl) g1) (OK_bind hh) (fun x8 hh => ?_)
  refine ⟨fun y e => ?_, fun y e => ?_⟩
  · obtain ⟨y9, rfl⟩ : ∃ z, z = y := ⟨_, rfl⟩
    subst e
    refine A_blk hM.1 1 (lv1 := [none, none, none, none, none, none, none, none]) (s1 := [aI 0]) (h1 := y9) rfl ?_
    exact A_retz hM.1 rfl rfl rfl (by decide) (hq (0, y9) hh)
  · obtain ⟨y10, rfl⟩ : ∃ z, z = y := ⟨_, rfl⟩
    subst e
    refine A_blk hM.1 4 (lv1 := [some (aR 3), some (aI v1), none, some (aI v3), none, none, none, none]) (s1 := [aI v3, aI v1, aR 8]) (h1 := y10) rfl ?_
    refine A_callSN (host := "QuotedBooks") hM rfl rfl (mem_NW 583 (by decide +kernel) rfl) mi_X11_put ms_X11_put (As := [aR 8, aI v1, aI v3]) (rest := []) (ct_X11_put 8 8 v1 v3 y10 rfl rfl (OK_bind hh)) (by decide) ⟨Nat.zero_le _, Nat.zero_le _⟩ rfl rfl (Nat.le_of_ble_eq_true rfl) (fun r F' h' hq1 => ?_)
    obtain ⟨rfl, rfl, hh⟩ := hq1
    obtain ⟨r11, rfl⟩ : ∃ z, z = h' := ⟨_, rfl⟩
    refine A_blk hM.1 1 (lv1 := [some (aR 3), some (aI v1), none, some (aI v3), none, none, none, none]) (s1 := [aI 1]) (h1 := r11) rfl ?_
    exact A_retz hM.1 rfl rfl rfl (by decide) (hq (1, r11) hh)

set_option maxRecDepth 20000 in
set_option maxHeartbeats 4000000 in
theorem ct_X7_tellWords {G : Gx} (v1 : Int) (v3 : Int) (h : Hp)   {P : (Int × Hp) → Prop} (hh : OK (X7_tellWords v1 v3 h) P) : CT G yX7_tellWords M_X7_tellWords 2 0 0 FN h [aR 3, aI v1, aR 1, aI v3] (fun r F' h' => F' = FN ∧ ∃ z, r = some (aI z.1) ∧ h' = z.2 ∧ P z) :=
  CT.of (by decide +kernel) rfl (Nat.le_of_ble_eq_true rfl) k_X7_tellWords fun k0 _ _ hM => c_X7_tellWords hM v1 v3 h (fun z hz => ⟨rfl, z, rfl, rfl, hz⟩) hh

theorem mi_X9_clear : MIv yX9_clear M_X9_clear 0 := ⟨⟨(mem_GW 660 (by decide +kernel) rfl), (mem_GW 124 (by decide +kernel) rfl), by decide +kernel, by decide +kernel, by decide +kernel, by decide⟩, (mem_GW 658 (by decide +kernel) rfl), (mem_GW 659 (by decide +kernel) rfl)⟩
set_option maxRecDepth 20000 in
set_option maxHeartbeats 4000000 in
theorem c_X9_clear {k0 : K0} {G : Gx} {Qp : Option AV → Fx → Hp → Prop} (hM : MB (KM k0 0 0 Qp) G M_X9_clear 1) (h : Hp)   {P : Hp → Prop} (hq : ∀ z : Hp, P z → Qp none FN z) (hh : OK (X9_clear h) P) : ATk (KM k0 0 0 Qp) FN 0 0 M_X9_clear 0 [some (aR 1)] [] h := by
  unfold X9_clear at hh
  refine A_blk hM.1 3 (lv1 := [some (aR 1)]) (s1 := []) (h1 := setH h 1 1 0) rfl ?_
  exact A_retv hM.1 rfl rfl rfl (hq (setH h 1 1 0) hh)

set_option maxRecDepth 20000 in
set_option maxHeartbeats 4000000 in
theorem ct_X9_clear {G : Gx} (h : Hp)   {P : Hp → Prop} (hh : OK (X9_clear h) P) : CT G yX9_clear M_X9_clear 1 0 0 FN h [aR 1] (fun r F' h' => F' = FN ∧ r = none ∧ P h') :=
  CT.of (by decide +kernel) rfl (Nat.le_of_ble_eq_true rfl) k_X9_clear fun k0 _ _ hM => c_X9_clear hM h (fun z hz => ⟨rfl, rfl, hz⟩) hh

theorem mi_X11_left : MIv yX11_left M_X11_left 2 := ⟨⟨(mem_GW 631 (by decide +kernel) rfl), (mem_GW 123 (by decide +kernel) rfl), by decide +kernel, by decide +kernel, by decide +kernel, by decide⟩, (mem_GW 629 (by decide +kernel) rfl), (mem_GW 630 (by decide +kernel) rfl)⟩
set_option maxRecDepth 20000 in
set_option maxHeartbeats 4000000 in
theorem c_X11_left {k0 : K0} {G : Gx} {Qp : Option AV → Fx → Hp → Prop} (hM : MB (KM k0 0 0 Qp) G M_X11_left 3) (v1 : Int) (v2 : Int) (h : Hp)   {P : (Int × Hp) → Prop} (hq : ∀ z : Int × Hp, P z → Qp (some (aI z.1)) FN z.2) (hh : OK (X11_left v1 v2 h) P) : ATk (KM k0 0 0 Qp) FN 0 0 M_X11_left 0 [some (aR 0), some (aI v1), some (aI v2), none] [] h := by
  unfold X11_left at hh
  refine A_blk hM.1 3 (lv1 := [some (aR 0), some (aI v1), some (aI v2), none]) (s1 := [aI v1, aR 3]) (h1 := h) rfl ?_
  refine A_callV hM rfl rfl (mem_GW 632 (by decide +kernel) rfl) mi_X7_isWork (As := [aI v1]) (rest := []) (ct_X7_isWork v1 h (OK_bind hh)) (by decide) ⟨Nat.zero_le _, Nat.zero_le _⟩ rfl rfl (Nat.le_of_ble_eq_true rfl) (by decide) rfl (by decide) rfl (fun r F' h' hq1 => ?_)
  obtain ⟨rfl, r1, rfl, e9, hh⟩ := hq1
  subst h'
  refine A_ifc hM.1 rfl rfl (fun hc => ?_) (fun hc => ?_)
  · replace hh := OK_t hh hc
    refine A_blk hM.1 1 (lv1 := [some (aR 0), some (aI v1), some (aI v2), none]) (s1 := [aI 0]) (h1 := h) rfl ?_
    exact A_retz hM.1 rfl rfl rfl (by decide) (hq (0, h) hh)
  · replace hh := OK_f hh hc
    refine A_blk hM.1 3 (lv1 := [some (aR 0), some (aI v1), some (aI v2), none]) (s1 := [aI v1, aR 3]) (h1 := h) rfl ?_
    refine A_callV hM rfl rfl (mem_GW 636 (by decide +kernel) rfl) mi_X7_isLeft (As := [aI v1]) (rest := []) (ct_X7_isLeft v1 h (OK_bind hh)) (by decide) ⟨Nat.zero_le _, Nat.zero_le _⟩ rfl rfl (Nat.le_of_ble_eq_true rfl) (by decide) rfl (by decide) rfl (fun r F' h' hq1 => ?_)
    obtain ⟨rfl, r2, rfl, e9, hh⟩ := hq1
    subst h'
    refine A_ifc hM.1 rfl rfl (fun hc => ?_) (fun hc => ?_)
    · replace hh := OK_t hh hc
      refine A_blk hM.1 1 (lv1 := [some (aR 0), some (aI v1), some (aI v2), none]) (s1 := [aI 0]) (h1 := h) rfl ?_
      exact A_retz hM.1 rfl rfl rfl (by decide) (hq (0, h) hh)
    · replace hh := OK_f hh hc
      refine A_blk hM.1 3 (lv1 := [some (aR 0), some (aI v1), some (aI v2), none]) (s1 := [aI 40, aI 1, aI v2]) (h1 := h) rfl ?_
      refine A_callS hM rfl rfl (mem_GW 576 (by decide +kernel) rfl) mi_X11_within ms_X11_within (As := [aI v2, aI 1, aI 40]) (rest := []) (ct_X11_within v2 1 40 h (OK_bind hh)) (by decide) ⟨Nat.zero_le _, Nat.zero_le _⟩ rfl rfl (Nat.le_of_ble_eq_true rfl) (fun r F' h' hq1 => ?_)
      obtain ⟨rfl, r3, rfl, e9, hh⟩ := hq1
      subst h'
      refine A_ifc hM.1 rfl rfl (fun hc => ?_) (fun hc => ?_)
      · replace hh := OK_t hh hc
        refine A_blk hM.1 1 (lv1 := [some (aR 0), some (aI v1), some (aI v2), none]) (s1 := [aI 0]) (h1 := h) rfl ?_
        exact A_retz hM.1 rfl rfl rfl (by decide) (hq (0, h) hh)
      · replace hh := OK_f hh hc
        refine A_blk hM.1 4 (lv1 := [some (aR 0), some (aI v1), some (aI v2), none]) (s1 := [aI 2, aI v2, aR 1]) (h1 := h) rfl ?_
        refine A_callV hM rfl rfl (mem_GW 644 (by decide +kernel) rfl) mi_X9_holds (As := [aI v2, aI 2]) (rest := []) (ct_X9_holds v2 2 h (OK_bind hh)) (by decide) ⟨Nat.zero_le _, Nat.zero_le _⟩ rfl rfl (Nat.le_of_ble_eq_true rfl) (by decide) rfl (by decide) rfl (fun r F' h' hq1 => ?_)
        obtain ⟨rfl, r4, rfl, e9, hh⟩ := hq1
        subst h'
        refine A_ifc hM.1 rfl rfl (fun hc => ?_) (fun hc => ?_)
        · replace hh := OK_t hh hc
          refine A_blk hM.1 6 (lv1 := [some (aR 0), some (aI v1), some (aI v2), none]) (s1 := [aI v2, aR 1, aI v1, aR 3]) (h1 := h) rfl ?_
          refine A_callV hM rfl rfl (mem_GW 648 (by decide +kernel) rfl) mi_X7_tellWords (As := [aI v1, aR 1, aI v2]) (rest := []) (ct_X7_tellWords v1 v2 h (OK_bind hh)) (by decide) ⟨Nat.zero_le _, Nat.zero_le _⟩ rfl rfl (Nat.le_of_ble_eq_true rfl) (by decide) rfl (by decide) rfl (fun r F' h' hq1 => ?_)
          obtain ⟨rfl, r5, rfl, e9, hh⟩ := hq1
          subst h'
          refine A_blk hM.1 3 (lv1 := [some (aR 0), some (aI v1), some (aI v2), some (aI r5.1)]) (s1 := [aR 1]) (h1 := r5.2) rfl ?_
          refine A_callV hM rfl rfl (mem_GW 657 (by decide +kernel) rfl) mi_X9_clear (As := []) (rest := []) (ct_X9_clear r5.2 (OK_bind hh)) (by decide) ⟨Nat.zero_le _, Nat.zero_le _⟩ rfl rfl (Nat.le_of_ble_eq_true rfl) (by decide) rfl (by decide) rfl (fun r F' h' hq1 => ?_)
          obtain ⟨rfl, rfl, hh⟩ := hq1
          obtain ⟨r6, rfl⟩ : ∃ z, z = h' := ⟨_, rfl⟩
          refine A_blk hM.1 1 (lv1 := [some (aR 0), some (aI v1), some (aI v2), some (aI r5.1)]) (s1 := [aI r5.1]) (h1 := r6) rfl ?_
          obtain ⟨hz7, hh⟩ := OK_g hh
          exact A_retz hM.1 rfl rfl rfl hz7 (hq (r5.1, r6) hh)
        · replace hh := OK_f hh hc
          refine A_blk hM.1 1 (lv1 := [some (aR 0), some (aI v1), some (aI v2), none]) (s1 := [aI 0]) (h1 := h) rfl ?_
          exact A_retz hM.1 rfl rfl rfl (by decide) (hq (0, h) hh)

set_option maxRecDepth 20000 in
set_option maxHeartbeats 4000000 in
theorem ct_X11_left {G : Gx} (v1 : Int) (v2 : Int) (h : Hp)   {P : (Int × Hp) → Prop} (hh : OK (X11_left v1 v2 h) P) : CT G yX11_left M_X11_left 3 0 0 FN h [aR 0, aI v1, aI v2] (fun r F' h' => F' = FN ∧ ∃ z, r = some (aI z.1) ∧ h' = z.2 ∧ P z) :=
  CT.of (by decide +kernel) rfl (Nat.le_of_ble_eq_true rfl) k_X11_left fun k0 _ _ hM => c_X11_left hM v1 v2 h (fun z hz => ⟨rfl, z, rfl, rfl, hz⟩) hh

theorem mi_X7_isWriter : MIv yX7_isWriter M_X7_isWriter 1 := ⟨⟨(mem_GW 668 (by decide +kernel) rfl), (mem_GW 125 (by decide +kernel) rfl), by decide +kernel, by decide +kernel, by decide +kernel, by decide⟩, (mem_GW 666 (by decide +kernel) rfl), (mem_GW 667 (by decide +kernel) rfl)⟩
set_option maxRecDepth 20000 in
set_option maxHeartbeats 4000000 in
theorem c_X7_isWriter {k0 : K0} {G : Gx} {Qp : Option AV → Fx → Hp → Prop} (hM : MB (KM k0 0 0 Qp) G M_X7_isWriter 1) (v1 : Int) (h : Hp)   {P : Int → Prop} (hq : ∀ z : Int, P z → Qp (some (aI z)) FN h) (hh : OK (X7_isWriter v1 h) P) : ATk (KM k0 0 0 Qp) FN 0 0 M_X7_isWriter 0 [some (aR 3), some (aI v1)] [] h := by
  unfold X7_isWriter at hh
  refine A_blk hM.1 1 (lv1 := [some (aR 3), some (aI v1)]) (s1 := [aI v1]) (h1 := h) rfl ?_
  refine A_ifc hM.1 rfl rfl (fun hc => ?_) (fun hc => ?_)
  · replace hh := OK_t hh hc
    refine A_blk hM.1 1 (lv1 := [some (aR 3), some (aI v1)]) (s1 := [aI 0]) (h1 := h) rfl ?_
    exact A_retz hM.1 rfl rfl rfl (by decide) (hq 0 hh)
  · replace hh := OK_f hh hc
    refine A_blk hM.1 3 (lv1 := [some (aR 3), some (aI v1)]) (s1 := [aI (h 3 9), aI v1]) (h1 := h) rfl ?_
    refine A_icmp hM.1 rfl rfl (fun hc => ?_) (fun hc => ?_)
    · replace hh := OK_t hh hc
      refine A_blk hM.1 1 (lv1 := [some (aR 3), some (aI v1)]) (s1 := [aI 0]) (h1 := h) rfl ?_
      exact A_retz hM.1 rfl rfl rfl (by decide) (hq 0 hh)
    · replace hh := OK_f hh hc
      refine A_blk hM.1 1 (lv1 := [some (aR 3), some (aI v1)]) (s1 := [aI 1]) (h1 := h) rfl ?_
      refine A_go hM.1 rfl rfl ?_
      exact A_retz hM.1 rfl rfl rfl (by decide) (hq 1 hh)

set_option maxRecDepth 20000 in
set_option maxHeartbeats 4000000 in
theorem ct_X7_isWriter {G : Gx} (v1 : Int) (h : Hp)   {P : Int → Prop} (hh : OK (X7_isWriter v1 h) P) : CT G yX7_isWriter M_X7_isWriter 1 0 0 FN h [aR 3, aI v1] (fun r F' h' => F' = FN ∧ ∃ z, r = some (aI z) ∧ h' = h ∧ P z) :=
  CT.of (by decide +kernel) rfl (Nat.le_of_ble_eq_true rfl) k_X7_isWriter fun k0 _ _ hM => c_X7_isWriter hM v1 h (fun z hz => ⟨rfl, z, rfl, rfl, hz⟩) hh

theorem mi_X7_bits : MIv yX7_bits M_X7_bits 0 := ⟨⟨(mem_GW 672 (by decide +kernel) rfl), (mem_GW 125 (by decide +kernel) rfl), by decide +kernel, by decide +kernel, by decide +kernel, by decide⟩, (mem_GW 670 (by decide +kernel) rfl), (mem_GW 671 (by decide +kernel) rfl)⟩
set_option maxRecDepth 20000 in
set_option maxHeartbeats 4000000 in
theorem c_X7_bits {k0 : K0} {G : Gx} {Qp : Option AV → Fx → Hp → Prop} (hM : MB (KM k0 0 0 Qp) G M_X7_bits 1) (h : Hp)   {P : Int → Prop} (hq : ∀ z : Int, P z → Qp (some (aI z)) FN h) (hh : OK (X7_bits h) P) : ATk (KM k0 0 0 Qp) FN 0 0 M_X7_bits 0 [some (aR 3)] [] h := by
  unfold X7_bits at hh
  refine A_blk hM.1 2 (lv1 := [some (aR 3)]) (s1 := [aI (h 3 11)]) (h1 := h) rfl ?_
  exact A_reti hM.1 rfl rfl rfl (hq (h 3 11) hh)

set_option maxRecDepth 20000 in
set_option maxHeartbeats 4000000 in
theorem ct_X7_bits {G : Gx} (h : Hp)   {P : Int → Prop} (hh : OK (X7_bits h) P) : CT G yX7_bits M_X7_bits 1 0 0 FN h [aR 3] (fun r F' h' => F' = FN ∧ ∃ z, r = some (aI z) ∧ h' = h ∧ P z) :=
  CT.of (by decide +kernel) rfl (Nat.le_of_ble_eq_true rfl) k_X7_bits fun k0 _ _ hM => c_X7_bits hM h (fun z hz => ⟨rfl, z, rfl, rfl, hz⟩) hh

theorem mi_X11_takeWords : MIv yX11_takeWords M_X11_takeWords 1 := ⟨⟨(mem_GW 676 (by decide +kernel) rfl), (mem_GW 123 (by decide +kernel) rfl), by decide +kernel, by decide +kernel, by decide +kernel, by decide⟩, (mem_GW 675 (by decide +kernel) rfl), (mem_GW 0 (by decide +kernel) rfl)⟩
set_option maxRecDepth 20000 in
set_option maxHeartbeats 4000000 in
theorem c_X11_takeWords_l5 {k0 : K0} {G : Gx} {Qp : Option AV → Fx → Hp → Prop} (hM : MB (KM k0 0 0 Qp) G M_X11_takeWords 2) (v1 : Int) (x : Int × Hp)   {P : ((Int × Hp) ⊕ ((Hp) ⊕ (Hp))) → Prop} (hin : ∀ y : Int × Hp, P (.inl y) → ATk (KM k0 0 0 Qp) FN 0 0 M_X11_takeWords 5 [some (aR 0), some (aI v1), some (aI y.1), none] [] y.2) (hout0 : ∀ y : Hp, P (.inr (.inl y)) → ATk (KM k0 0 0 Qp) FN 0 0 M_X11_takeWords 21 [none, none, none, none] [] y) (hout1 : ∀ y : Hp, P (.inr (.inr y)) → ATk (KM k0 0 0 Qp) FN 0 0 M_X11_takeWords 35 [none, none, none, none] [] y) (hh : OK (X11_takeWords_l5 v1 x) P) : ATk (KM k0 0 0 Qp) FN 0 0 M_X11_takeWords 5 [some (aR 0), some (aI v1), some (aI x.1), none] [] x.2 := by
  unfold X11_takeWords_l5 at hh
  refine A_blk hM.1 2 (lv1 := [some (aR 0), some (aI v1), some (aI x.1), none]) (s1 := [aI v1, aI x.1]) (h1 := x.2) rfl ?_
  refine A_icmp hM.1 rfl rfl (fun hc => ?_) (fun hc => ?_)
  · replace hh := OK_t hh hc
    refine A_mask [false, false, false, true] (lv1 := [none, none, none, none]) rfl ?_
    exact hout1 x.2 hh
  · replace hh := OK_f hh hc
    refine A_blk hM.1 2 (lv1 := [some (aR 0), some (aI v1), some (aI x.1), none]) (s1 := [aI 8, aI x.1]) (h1 := x.2) rfl ?_
    refine A_icmp hM.1 rfl rfl (fun hc => ?_) (fun hc => ?_)
    · replace hh := OK_t hh hc
      refine A_mask [false, false, false, true] (lv1 := [none, none, none, none]) rfl ?_
      exact hout1 x.2 hh
    · replace hh := OK_f hh hc
      refine A_blk hM.1 3 (lv1 := [some (aR 0), some (aI v1), some (aI x.1), none]) (s1 := [aI x.1, aR 1]) (h1 := x.2) rfl ?_
      refine A_callV hM rfl rfl (mem_GW 677 (by decide +kernel) rfl) mi_X9_byteAt (As := [aI x.1]) (rest := []) (ct_X9_byteAt x.1 x.2 (OK_bind hh)) (by decide) ⟨Nat.zero_le _, Nat.zero_le _⟩ rfl rfl (Nat.le_of_ble_eq_true rfl) (by decide) rfl (by decide) rfl (fun r F' h' hq1 => ?_)
      obtain ⟨rfl, r1, rfl, e9, hh⟩ := hq1
      subst h'
      refine A_blk hM.1 4 (lv1 := [some (aR 0), some (aI v1), some (aI x.1), some (aI r1)]) (s1 := [aI 63, aI 0, aI r1]) (h1 := x.2) rfl ?_
      refine A_callS hM rfl rfl (mem_GW 576 (by decide +kernel) rfl) mi_X11_within ms_X11_within (As := [aI r1, aI 0, aI 63]) (rest := []) (ct_X11_within r1 0 63 x.2 (OK_bind hh)) (by decide) ⟨Nat.zero_le _, Nat.zero_le _⟩ rfl rfl (Nat.le_of_ble_eq_true rfl) (fun r F' h' hq1 => ?_)
      obtain ⟨rfl, r2, rfl, e9, hh⟩ := hq1
      subst h'
      refine A_ifc hM.1 rfl rfl (fun hc => ?_) (fun hc => ?_)
      · replace hh := OK_t hh hc
        refine A_blk hM.1 4 (lv1 := [some (aR 0), some (aI v1), some (aI x.1), some (aI r1)]) (s1 := [aI r1, aI x.1, aR 85]) (h1 := x.2) rfl ?_
        obtain ⟨g3, hh⟩ := OK_g hh
        refine A_ast hM.1 rfl (Or.inl ⟨rfl, rfl, rfl⟩) rfl rfl rfl g3 ?_
        refine A_blk hM.1 6 (lv1 := [some (aR 0), some (aI v1), some (aI (x.1 + 1)), some (aI r1)]) (s1 := []) (h1 := setH (setH x.2 85 ((w32 x.1).toNat) r1) 0 14 (x.1 + 1)) rfl ?_
        refine A_go hM.1 rfl rfl ?_
        refine A_mask [true, true, true, false] (lv1 := [some (aR 0), some (aI v1), some (aI (x.1 + 1)), none]) rfl ?_
        exact hin (x.1 + 1, setH (setH x.2 85 ((w32 x.1).toNat) r1) 0 14 (x.1 + 1)) hh
      · replace hh := OK_f hh hc
        refine A_mask [false, false, false, false] (lv1 := [none, none, none, none]) rfl ?_
        exact hout0 x.2 hh

set_option maxRecDepth 20000 in
set_option maxHeartbeats 4000000 in
theorem c_X11_takeWords {k0 : K0} {G : Gx} {Qp : Option AV → Fx → Hp → Prop} (hM : MB (KM k0 0 0 Qp) G M_X11_takeWords 2) (v1 : Int) (h : Hp)   {P : (Int × Hp) → Prop} (hq : ∀ z : Int × Hp, P z → Qp (some (aI z.1)) FN z.2) (hh : OK (X11_takeWords v1 h) P) : ATk (KM k0 0 0 Qp) FN 0 0 M_X11_takeWords 0 [some (aR 0), some (aI v1), none, none] [] h := by
  unfold X11_takeWords at hh
  refine A_blk hM.1 5 (lv1 := [some (aR 0), some (aI v1), some (aI 0), none]) (s1 := []) (h1 := setH h 0 14 0) rfl ?_
  refine iter_ok (s := (0, setH h 0 14 0)) (Gp := fun z => ATk (KM k0 0 0 Qp) FN 0 0 M_X11_takeWords 5 [some (aR 0), some (aI v1), some (aI z.1), none] [] z.2) (E := fun z => (∀ y, z = (.inl y) → ATk (KM k0 0 0 Qp) FN 0 0 M_X11_takeWords 21 [none, none, none, none] [] y) ∧ (∀ y, z = (.inr y) → ATk (KM k0 0 0 Qp) FN 0 0 M_X11_takeWords 35 [none, none, none, none] [] y)) (fun z P1 g1 g2 g3 => c_X11_takeWords_l5 hM v1 z g2 (fun y hy => (g3 (.inl y) hy).1 y rfl) (fun y hy => (g3 (.inr y) hy).2 y rfl) g1) (OK_bind hh) (fun x4 hh => ?_)
  refine ⟨fun y e => ?_, fun y e => ?_⟩
  · obtain ⟨y5, rfl⟩ : ∃ z, z = y := ⟨_, rfl⟩
    subst e
    refine A_blk hM.1 1 (lv1 := [none, none, none, none]) (s1 := [aI 0]) (h1 := y5) rfl ?_
    exact A_retz hM.1 rfl rfl rfl (by decide) (hq (0, y5) hh)
  · obtain ⟨y6, rfl⟩ : ∃ z, z = y := ⟨_, rfl⟩
    subst e
    refine A_blk hM.1 1 (lv1 := [none, none, none, none]) (s1 := [aI 1]) (h1 := y6) rfl ?_
    exact A_retz hM.1 rfl rfl rfl (by decide) (hq (1, y6) hh)

set_option maxRecDepth 20000 in
set_option maxHeartbeats 4000000 in
theorem ct_X11_takeWords {G : Gx} (v1 : Int) (h : Hp)   {P : (Int × Hp) → Prop} (hh : OK (X11_takeWords v1 h) P) : CT G yX11_takeWords M_X11_takeWords 2 0 0 FN h [aR 0, aI v1] (fun r F' h' => F' = FN ∧ ∃ z, r = some (aI z.1) ∧ h' = z.2 ∧ P z) :=
  CT.of (by decide +kernel) rfl (Nat.le_of_ble_eq_true rfl) k_X11_takeWords fun k0 _ _ hM => c_X11_takeWords hM v1 h (fun z hz => ⟨rfl, z, rfl, rfl, hz⟩) hh

theorem mi_X5_forget : MIv yX5_forget M_X5_forget 0 := ⟨⟨(mem_GW 685 (by decide +kernel) rfl), (mem_GW 132 (by decide +kernel) rfl), by decide +kernel, by decide +kernel, by decide +kernel, by decide⟩, (mem_GW 683 (by decide +kernel) rfl), (mem_GW 684 (by decide +kernel) rfl)⟩
set_option maxRecDepth 20000 in
set_option maxHeartbeats 4000000 in
theorem c_X5_forget {k0 : K0} {G : Gx} {Qp : Option AV → Fx → Hp → Prop} (hM : MB (KM k0 0 0 Qp) G M_X5_forget 1) (h : Hp)   {P : Hp → Prop} (hq : ∀ z : Hp, P z → Qp none FN z) (hh : OK (X5_forget h) P) : ATk (KM k0 0 0 Qp) FN 0 0 M_X5_forget 0 [some (aR 66)] [] h := by
  unfold X5_forget at hh
  refine A_blk hM.1 3 (lv1 := [some (aR 66)]) (s1 := []) (h1 := setH h 66 16 (-1)) rfl ?_
  exact A_retv hM.1 rfl rfl rfl (hq (setH h 66 16 (-1)) hh)

set_option maxRecDepth 20000 in
set_option maxHeartbeats 4000000 in
theorem ct_X5_forget {G : Gx} (h : Hp)   {P : Hp → Prop} (hh : OK (X5_forget h) P) : CT G yX5_forget M_X5_forget 1 0 0 FN h [aR 66] (fun r F' h' => F' = FN ∧ r = none ∧ P h') :=
  CT.of (by decide +kernel) rfl (Nat.le_of_ble_eq_true rfl) k_X5_forget fun k0 _ _ hM => c_X5_forget hM h (fun z hz => ⟨rfl, rfl, hz⟩) hh

theorem mi_X7_addBit : MIv yX7_addBit M_X7_addBit 4 := ⟨⟨(mem_GW 689 (by decide +kernel) rfl), (mem_GW 125 (by decide +kernel) rfl), by decide +kernel, by decide +kernel, by decide +kernel, by decide⟩, (mem_GW 687 (by decide +kernel) rfl), (mem_GW 688 (by decide +kernel) rfl)⟩
set_option maxRecDepth 20000 in
set_option maxHeartbeats 4000000 in
theorem c_X7_addBit {k0 : K0} {G : Gx} {Qp : Option AV → Fx → Hp → Prop} (hM : MB (KM k0 0 0 Qp) G M_X7_addBit 2) (v1 : Int) (v2 : Int) (v3 : Int) (v4 : Int) (h : Hp)   {P : (Int × Hp) → Prop} (hq : ∀ z : Int × Hp, P z → Qp (some (aI z.1)) FN z.2) (hh : OK (X7_addBit v1 v2 v3 v4 h) P) : ATk (KM k0 0 0 Qp) FN 0 0 M_X7_addBit 0 [some (aR 3), some (aI v1), some (aI v2), some (aI v3), some (aI v4)] [] h := by
  unfold X7_addBit at hh
  refine A_blk hM.1 3 (lv1 := [some (aR 3), some (aI v1), some (aI v2), some (aI v3), some (aI v4)]) (s1 := [aI 40, aI (h 3 11)]) (h1 := h) rfl ?_
  refine A_icmp hM.1 rfl rfl (fun hc => ?_) (fun hc => ?_)
  · replace hh := OK_t hh hc
    refine A_blk hM.1 5 (lv1 := [some (aR 3), some (aI v1), some (aI v2), some (aI v3), some (aI v4)]) (s1 := [aI v1, aI (h 3 11), aR 12]) (h1 := h) rfl ?_
    refine A_callSN (host := "QuotedBooks") hM rfl rfl (mem_NW 583 (by decide +kernel) rfl) mi_X11_put ms_X11_put (As := [aR 12, aI (h 3 11), aI v1]) (rest := []) (ct_X11_put 12 40 (h 3 11) v1 h rfl rfl (OK_bind hh)) (by decide) ⟨Nat.zero_le _, Nat.zero_le _⟩ rfl rfl (Nat.le_of_ble_eq_true rfl) (fun r F' h' hq1 => ?_)
    obtain ⟨rfl, rfl, hh⟩ := hq1
    obtain ⟨r1, rfl⟩ : ∃ z, z = h' := ⟨_, rfl⟩
    refine A_blk hM.1 5 (lv1 := [some (aR 3), some (aI v1), some (aI v2), some (aI v3), some (aI v4)]) (s1 := [aI v2, aI (r1 3 11), aR 13]) (h1 := r1) rfl ?_
    refine A_callSN (host := "QuotedBooks") hM rfl rfl (mem_NW 583 (by decide +kernel) rfl) mi_X11_put ms_X11_put (As := [aR 13, aI (r1 3 11), aI v2]) (rest := []) (ct_X11_put 13 40 (r1 3 11) v2 r1 rfl rfl (OK_bind hh)) (by decide) ⟨Nat.zero_le _, Nat.zero_le _⟩ rfl rfl (Nat.le_of_ble_eq_true rfl) (fun r F' h' hq1 => ?_)
    obtain ⟨rfl, rfl, hh⟩ := hq1
    obtain ⟨r2, rfl⟩ : ∃ z, z = h' := ⟨_, rfl⟩
    refine A_blk hM.1 5 (lv1 := [some (aR 3), some (aI v1), some (aI v2), some (aI v3), some (aI v4)]) (s1 := [aI v3, aI (r2 3 11), aR 14]) (h1 := r2) rfl ?_
    refine A_callSN (host := "QuotedBooks") hM rfl rfl (mem_NW 583 (by decide +kernel) rfl) mi_X11_put ms_X11_put (As := [aR 14, aI (r2 3 11), aI v3]) (rest := []) (ct_X11_put 14 40 (r2 3 11) v3 r2 rfl rfl (OK_bind hh)) (by decide) ⟨Nat.zero_le _, Nat.zero_le _⟩ rfl rfl (Nat.le_of_ble_eq_true rfl) (fun r F' h' hq1 => ?_)
    obtain ⟨rfl, rfl, hh⟩ := hq1
    obtain ⟨r3, rfl⟩ : ∃ z, z = h' := ⟨_, rfl⟩
    refine A_blk hM.1 5 (lv1 := [some (aR 3), some (aI v1), some (aI v2), some (aI v3), some (aI v4)]) (s1 := [aI v4, aI (r3 3 11), aR 15]) (h1 := r3) rfl ?_
    refine A_callSN (host := "QuotedBooks") hM rfl rfl (mem_NW 583 (by decide +kernel) rfl) mi_X11_put ms_X11_put (As := [aR 15, aI (r3 3 11), aI v4]) (rest := []) (ct_X11_put 15 40 (r3 3 11) v4 r3 rfl rfl (OK_bind hh)) (by decide) ⟨Nat.zero_le _, Nat.zero_le _⟩ rfl rfl (Nat.le_of_ble_eq_true rfl) (fun r F' h' hq1 => ?_)
    obtain ⟨rfl, rfl, hh⟩ := hq1
    obtain ⟨r4, rfl⟩ : ∃ z, z = h' := ⟨_, rfl⟩
    refine A_blk hM.1 10 (lv1 := [some (aR 3), some (aI v1), some (aI v2), some (aI v3), some (aI v4)]) (s1 := [aI (((r4 3 11) + 1) - 1)]) (h1 := setH r4 3 11 ((r4 3 11) + 1)) rfl ?_
    exact A_reti hM.1 rfl rfl rfl (hq (((r4 3 11) + 1) - 1, setH r4 3 11 ((r4 3 11) + 1)) hh)
  · replace hh := OK_f hh hc
    refine A_blk hM.1 1 (lv1 := [some (aR 3), some (aI v1), some (aI v2), some (aI v3), some (aI v4)]) (s1 := [aI (-1)]) (h1 := h) rfl ?_
    exact A_reti hM.1 rfl rfl rfl (hq ((-1), h) hh)

set_option maxRecDepth 20000 in
set_option maxHeartbeats 4000000 in
theorem ct_X7_addBit {G : Gx} (v1 : Int) (v2 : Int) (v3 : Int) (v4 : Int) (h : Hp)   {P : (Int × Hp) → Prop} (hh : OK (X7_addBit v1 v2 v3 v4 h) P) : CT G yX7_addBit M_X7_addBit 2 0 0 FN h [aR 3, aI v1, aI v2, aI v3, aI v4] (fun r F' h' => F' = FN ∧ ∃ z, r = some (aI z.1) ∧ h' = z.2 ∧ P z) :=
  CT.of (by decide +kernel) rfl (Nat.le_of_ble_eq_true rfl) k_X7_addBit fun k0 _ _ hM => c_X7_addBit hM v1 v2 v3 v4 h (fun z hz => ⟨rfl, z, rfl, rfl, hz⟩) hh

theorem mi_X7_isBit : MIv yX7_isBit M_X7_isBit 1 := ⟨⟨(mem_GW 697 (by decide +kernel) rfl), (mem_GW 125 (by decide +kernel) rfl), by decide +kernel, by decide +kernel, by decide +kernel, by decide⟩, (mem_GW 695 (by decide +kernel) rfl), (mem_GW 696 (by decide +kernel) rfl)⟩
set_option maxRecDepth 20000 in
set_option maxHeartbeats 4000000 in
theorem c_X7_isBit {k0 : K0} {G : Gx} {Qp : Option AV → Fx → Hp → Prop} (hM : MB (KM k0 0 0 Qp) G M_X7_isBit 1) (v1 : Int) (h : Hp)   {P : Int → Prop} (hq : ∀ z : Int, P z → Qp (some (aI z)) FN h) (hh : OK (X7_isBit v1 h) P) : ATk (KM k0 0 0 Qp) FN 0 0 M_X7_isBit 0 [some (aR 3), some (aI v1)] [] h := by
  unfold X7_isBit at hh
  refine A_blk hM.1 1 (lv1 := [some (aR 3), some (aI v1)]) (s1 := [aI v1]) (h1 := h) rfl ?_
  refine A_ifc hM.1 rfl rfl (fun hc => ?_) (fun hc => ?_)
  · replace hh := OK_t hh hc
    refine A_blk hM.1 1 (lv1 := [some (aR 3), some (aI v1)]) (s1 := [aI 0]) (h1 := h) rfl ?_
    exact A_retz hM.1 rfl rfl rfl (by decide) (hq 0 hh)
  · replace hh := OK_f hh hc
    refine A_blk hM.1 3 (lv1 := [some (aR 3), some (aI v1)]) (s1 := [aI (h 3 11), aI v1]) (h1 := h) rfl ?_
    refine A_icmp hM.1 rfl rfl (fun hc => ?_) (fun hc => ?_)
    · replace hh := OK_t hh hc
      refine A_blk hM.1 1 (lv1 := [some (aR 3), some (aI v1)]) (s1 := [aI 0]) (h1 := h) rfl ?_
      exact A_retz hM.1 rfl rfl rfl (by decide) (hq 0 hh)
    · replace hh := OK_f hh hc
      refine A_blk hM.1 1 (lv1 := [some (aR 3), some (aI v1)]) (s1 := [aI 1]) (h1 := h) rfl ?_
      refine A_go hM.1 rfl rfl ?_
      exact A_retz hM.1 rfl rfl rfl (by decide) (hq 1 hh)

set_option maxRecDepth 20000 in
set_option maxHeartbeats 4000000 in
theorem ct_X7_isBit {G : Gx} (v1 : Int) (h : Hp)   {P : Int → Prop} (hh : OK (X7_isBit v1 h) P) : CT G yX7_isBit M_X7_isBit 1 0 0 FN h [aR 3, aI v1] (fun r F' h' => F' = FN ∧ ∃ z, r = some (aI z) ∧ h' = h ∧ P z) :=
  CT.of (by decide +kernel) rfl (Nat.le_of_ble_eq_true rfl) k_X7_isBit fun k0 _ _ hM => c_X7_isBit hM v1 h (fun z hz => ⟨rfl, z, rfl, rfl, hz⟩) hh

theorem mi_X7_tellBitWords : MIv yX7_tellBitWords M_X7_tellBitWords 3 := ⟨⟨(mem_GW 693 (by decide +kernel) rfl), (mem_GW 125 (by decide +kernel) rfl), by decide +kernel, by decide +kernel, by decide +kernel, by decide⟩, (mem_GW 691 (by decide +kernel) rfl), (mem_GW 692 (by decide +kernel) rfl)⟩
set_option maxRecDepth 20000 in
set_option maxHeartbeats 4000000 in
theorem c_X7_tellBitWords_l12 {k0 : K0} {G : Gx} {Qp : Option AV → Fx → Hp → Prop} (hM : MB (KM k0 0 0 Qp) G M_X7_tellBitWords 2) (v1 : Int) (v3 : Int) (x : Int × Hp)   {P : ((Int × Hp) ⊕ (Hp)) → Prop} (hin : ∀ y : Int × Hp, P (.inl y) → ATk (KM k0 0 0 Qp) FN 0 0 M_X7_tellBitWords 12 [some (aR 3), some (aI v1), some (aR 85), some (aI v3), some (aI y.1)] [] y.2) (hout0 : ∀ y : Hp, P (.inr y) → ATk (KM k0 0 0 Qp) FN 0 0 M_X7_tellBitWords 31 [none, none, none, none, none] [] y) (hh : OK (X7_tellBitWords_l12 v1 v3 x) P) : ATk (KM k0 0 0 Qp) FN 0 0 M_X7_tellBitWords 12 [some (aR 3), some (aI v1), some (aR 85), some (aI v3), some (aI x.1)] [] x.2 := by
  unfold X7_tellBitWords_l12 at hh
  refine A_blk hM.1 2 (lv1 := [some (aR 3), some (aI v1), some (aR 85), some (aI v3), some (aI x.1)]) (s1 := [aI v3, aI x.1]) (h1 := x.2) rfl ?_
  refine A_icmp hM.1 rfl rfl (fun hc => ?_) (fun hc => ?_)
  · replace hh := OK_t hh hc
    refine A_mask [false, false, false, false, false] (lv1 := [none, none, none, none, none]) rfl ?_
    exact hout0 x.2 hh
  · replace hh := OK_f hh hc
    refine A_blk hM.1 2 (lv1 := [some (aR 3), some (aI v1), some (aR 85), some (aI v3), some (aI x.1)]) (s1 := [aI 8, aI x.1]) (h1 := x.2) rfl ?_
    refine A_icmp hM.1 rfl rfl (fun hc => ?_) (fun hc => ?_)
    · replace hh := OK_t hh hc
      refine A_mask [false, false, false, false, false] (lv1 := [none, none, none, none, none]) rfl ?_
      exact hout0 x.2 hh
    · replace hh := OK_f hh hc
      refine A_blk hM.1 9 (lv1 := [some (aR 3), some (aI v1), some (aR 85), some (aI v3), some (aI x.1)]) (s1 := [aI x.1, aR 85, aI ((v1 * 8) + x.1), aR 17]) (h1 := x.2) rfl ?_
      refine A_callSN (host := "QuotedBooks") hM rfl rfl (mem_NW 641 (by decide +kernel) rfl) mi_X11_at ms_X11_at (As := [aR 85, aI x.1]) (rest := [aI ((v1 * 8) + x.1), aR 17]) (ct_X11_at 85 8 x.1 x.2 rfl rfl (OK_bind hh)) (by decide) ⟨Nat.zero_le _, Nat.zero_le _⟩ rfl rfl (Nat.le_of_ble_eq_true rfl) (fun r F' h' hq1 => ?_)
      obtain ⟨rfl, r3, rfl, e9, hh⟩ := hq1
      subst h'
      refine A_callSN (host := "QuotedBooks") hM rfl rfl (mem_NW 583 (by decide +kernel) rfl) mi_X11_put ms_X11_put (As := [aR 17, aI ((v1 * 8) + x.1), aI r3]) (rest := []) (ct_X11_put 17 320 ((v1 * 8) + x.1) r3 x.2 rfl rfl (OK_bind hh)) (by decide) ⟨Nat.zero_le _, Nat.zero_le _⟩ rfl rfl (Nat.le_of_ble_eq_true rfl) (fun r F' h' hq1 => ?_)
      obtain ⟨rfl, rfl, hh⟩ := hq1
      obtain ⟨r4, rfl⟩ : ∃ z, z = h' := ⟨_, rfl⟩
      refine A_blk hM.1 1 (lv1 := [some (aR 3), some (aI v1), some (aR 85), some (aI v3), some (aI (x.1 + 1))]) (s1 := []) (h1 := r4) rfl ?_
      refine A_go hM.1 rfl rfl ?_
      exact hin (x.1 + 1, r4) hh

set_option maxRecDepth 20000 in
set_option maxHeartbeats 4000000 in
theorem c_X7_tellBitWords {k0 : K0} {G : Gx} {Qp : Option AV → Fx → Hp → Prop} (hM : MB (KM k0 0 0 Qp) G M_X7_tellBitWords 2) (v1 : Int) (v3 : Int) (h : Hp)   {P : Hp → Prop} (hq : ∀ z : Hp, P z → Qp none FN z) (hh : OK (X7_tellBitWords v1 v3 h) P) : ATk (KM k0 0 0 Qp) FN 0 0 M_X7_tellBitWords 0 [some (aR 3), some (aI v1), some (aR 85), some (aI v3), none] [] h := by
  unfold X7_tellBitWords at hh
  refine A_blk hM.1 2 (lv1 := [some (aR 3), some (aI v1), some (aR 85), some (aI v3), none]) (s1 := [aI v1, aR 3]) (h1 := h) rfl ?_
  refine A_callV hM rfl rfl (mem_GW 694 (by decide +kernel) rfl) mi_X7_isBit (As := [aI v1]) (rest := []) (ct_X7_isBit v1 h (OK_bind hh)) (by decide) ⟨Nat.zero_le _, Nat.zero_le _⟩ rfl rfl (Nat.le_of_ble_eq_true rfl) (by decide) rfl (by decide) rfl (fun r F' h' hq1 => ?_)
  obtain ⟨rfl, r1, rfl, e9, hh⟩ := hq1
  subst h'
  refine A_ifc hM.1 rfl rfl (fun hc => ?_) (fun hc => ?_)
  · replace hh := OK_t hh hc
    refine A_blk hM.1 4 (lv1 := [some (aR 3), some (aI v1), some (aR 85), some (aI v3), none]) (s1 := [aI v3, aI v1, aR 16]) (h1 := h) rfl ?_
    refine A_callSN (host := "QuotedBooks") hM rfl rfl (mem_NW 583 (by decide +kernel) rfl) mi_X11_put ms_X11_put (As := [aR 16, aI v1, aI v3]) (rest := []) (ct_X11_put 16 40 v1 v3 h rfl rfl (OK_bind hh)) (by decide) ⟨Nat.zero_le _, Nat.zero_le _⟩ rfl rfl (Nat.le_of_ble_eq_true rfl) (fun r F' h' hq1 => ?_)
    obtain ⟨rfl, rfl, hh⟩ := hq1
    obtain ⟨r2, rfl⟩ : ∃ z, z = h' := ⟨_, rfl⟩
    refine A_blk hM.1 2 (lv1 := [some (aR 3), some (aI v1), some (aR 85), some (aI v3), some (aI 0)]) (s1 := []) (h1 := r2) rfl ?_
    refine iter_ok (s := (0, r2)) (Gp := fun z => ATk (KM k0 0 0 Qp) FN 0 0 M_X7_tellBitWords 12 [some (aR 3), some (aI v1), some (aR 85), some (aI v3), some (aI z.1)] [] z.2) (E := fun z => ATk (KM k0 0 0 Qp) FN 0 0 M_X7_tellBitWords 31 [none, none, none, none, none] [] z) (fun z P1 g1 g2 g3 => c_X7_tellBitWords_l12 hM v1 v3 z g2 g3 g1) (OK_bind hh) (fun x5 hh => ?_)
    exact A_retv hM.1 rfl rfl rfl (hq x5 hh)
  · replace hh := OK_f hh hc
    exact A_retv hM.1 rfl rfl rfl (hq h hh)

set_option maxRecDepth 20000 in
set_option maxHeartbeats 4000000 in
theorem ct_X7_tellBitWords {G : Gx} (v1 : Int) (v3 : Int) (h : Hp)   {P : Hp → Prop} (hh : OK (X7_tellBitWords v1 v3 h) P) : CT G yX7_tellBitWords M_X7_tellBitWords 2 0 0 FN h [aR 3, aI v1, aR 85, aI v3] (fun r F' h' => F' = FN ∧ r = none ∧ P h') :=
  CT.of (by decide +kernel) rfl (Nat.le_of_ble_eq_true rfl) k_X7_tellBitWords fun k0 _ _ hM => c_X7_tellBitWords hM v1 v3 h (fun z hz => ⟨rfl, rfl, hz⟩) hh

theorem mi_X11_keepBit : MIv yX11_keepBit M_X11_keepBit 4 := ⟨⟨(mem_GW 681 (by decide +kernel) rfl), (mem_GW 123 (by decide +kernel) rfl), by decide +kernel, by decide +kernel, by decide +kernel, by decide⟩, (mem_GW 680 (by decide +kernel) rfl), (mem_GW 1 (by decide +kernel) rfl)⟩
set_option maxRecDepth 20000 in
set_option maxHeartbeats 4000000 in
theorem c_X11_keepBit {k0 : K0} {G : Gx} {Qp : Option AV → Fx → Hp → Prop} (hM : MB (KM k0 0 0 Qp) G M_X11_keepBit 3) (v1 : Int) (v2 : Int) (v3 : Int) (v4 : Int) (h : Hp)   {P : (Int × Hp) → Prop} (hq : ∀ z : Int × Hp, P z → Qp (some (aI z.1)) FN z.2) (hh : OK (X11_keepBit v1 v2 v3 v4 h) P) : ATk (KM k0 0 0 Qp) FN 0 0 M_X11_keepBit 0 [some (aR 0), some (aI v1), some (aI v2), some (aI v3), some (aI v4), none] [] h := by
  unfold X11_keepBit at hh
  refine A_blk hM.1 2 (lv1 := [some (aR 0), some (aI v1), some (aI v2), some (aI v3), some (aI v4), none]) (s1 := [aR 66]) (h1 := h) rfl ?_
  refine A_callV hM rfl rfl (mem_GW 682 (by decide +kernel) rfl) mi_X5_forget (As := []) (rest := []) (ct_X5_forget h (OK_bind hh)) (by decide) ⟨Nat.zero_le _, Nat.zero_le _⟩ rfl rfl (Nat.le_of_ble_eq_true rfl) (by decide) rfl (by decide) rfl (fun r F' h' hq1 => ?_)
  obtain ⟨rfl, rfl, hh⟩ := hq1
  obtain ⟨r1, rfl⟩ : ∃ z, z = h' := ⟨_, rfl⟩
  refine A_blk hM.1 6 (lv1 := [some (aR 0), some (aI v1), some (aI v2), some (aI v3), some (aI v4), none]) (s1 := [aI v4, aI v3, aI v2, aI v1, aR 3]) (h1 := r1) rfl ?_
  refine A_callV hM rfl rfl (mem_GW 686 (by decide +kernel) rfl) mi_X7_addBit (As := [aI v1, aI v2, aI v3, aI v4]) (rest := []) (ct_X7_addBit v1 v2 v3 v4 r1 (OK_bind hh)) (by decide) ⟨Nat.zero_le _, Nat.zero_le _⟩ rfl rfl (Nat.le_of_ble_eq_true rfl) (by decide) rfl (by decide) rfl (fun r F' h' hq1 => ?_)
  obtain ⟨rfl, r2, rfl, e9, hh⟩ := hq1
  subst h'
  refine A_blk hM.1 8 (lv1 := [some (aR 0), some (aI v1), some (aI v2), some (aI v3), some (aI v4), some (aI r2.1)]) (s1 := [aI (r2.2 0 14), aR 85, aI r2.1, aR 3]) (h1 := r2.2) rfl ?_
  refine A_callV hM rfl rfl (mem_GW 690 (by decide +kernel) rfl) mi_X7_tellBitWords (As := [aI r2.1, aR 85, aI (r2.2 0 14)]) (rest := []) (ct_X7_tellBitWords r2.1 (r2.2 0 14) r2.2 (OK_bind hh)) (by decide) ⟨Nat.zero_le _, Nat.zero_le _⟩ rfl rfl (Nat.le_of_ble_eq_true rfl) (by decide) rfl (by decide) rfl (fun r F' h' hq1 => ?_)
  obtain ⟨rfl, rfl, hh⟩ := hq1
  obtain ⟨r3, rfl⟩ : ∃ z, z = h' := ⟨_, rfl⟩
  refine A_blk hM.1 1 (lv1 := [some (aR 0), some (aI v1), some (aI v2), some (aI v3), some (aI v4), some (aI r2.1)]) (s1 := [aI r2.1]) (h1 := r3) rfl ?_
  exact A_reti hM.1 rfl rfl rfl (hq (r2.1, r3) hh)

set_option maxRecDepth 20000 in
set_option maxHeartbeats 4000000 in
theorem ct_X11_keepBit {G : Gx} (v1 : Int) (v2 : Int) (v3 : Int) (v4 : Int) (h : Hp)   {P : (Int × Hp) → Prop} (hh : OK (X11_keepBit v1 v2 v3 v4 h) P) : CT G yX11_keepBit M_X11_keepBit 3 0 0 FN h [aR 0, aI v1, aI v2, aI v3, aI v4] (fun r F' h' => F' = FN ∧ ∃ z, r = some (aI z.1) ∧ h' = z.2 ∧ P z) :=
  CT.of (by decide +kernel) rfl (Nat.le_of_ble_eq_true rfl) k_X11_keepBit fun k0 _ _ hM => c_X11_keepBit hM v1 v2 v3 v4 h (fun z hz => ⟨rfl, z, rfl, rfl, hz⟩) hh

theorem mi_X11_bit : MIv yX11_bit M_X11_bit 5 := ⟨⟨(mem_GW 664 (by decide +kernel) rfl), (mem_GW 123 (by decide +kernel) rfl), by decide +kernel, by decide +kernel, by decide +kernel, by decide⟩, (mem_GW 662 (by decide +kernel) rfl), (mem_GW 663 (by decide +kernel) rfl)⟩
set_option maxRecDepth 20000 in
set_option maxHeartbeats 4000000 in
theorem c_X11_bit_j31 {k0 : K0} {G : Gx} {Qp : Option AV → Fx → Hp → Prop} (hM : MB (KM k0 0 0 Qp) G M_X11_bit 4) (v1 : Int) (v2 : Int) (v3 : Int) (v4 : Int) (v5 : Int) (s0 : Int) (h : Hp)   {P : (Int × Hp) → Prop} (hq : ∀ z : Int × Hp, P z → Qp (some (aI z.1)) FN z.2) (hh : OK (X11_bit_j31 v1 v2 v3 v4 v5 s0 h) P) : ATk (KM k0 0 0 Qp) FN 0 0 M_X11_bit 31 [some (aR 0), some (aI v1), some (aI v2), some (aI v3), some (aI v4), some (aI v5), none, none] [aI s0] h := by
  unfold X11_bit_j31 at hh
  refine A_blk hM.1 2 (lv1 := [some (aR 0), some (aI v1), some (aI v2), some (aI v3), some (aI v4), some (aI v5), some (aI s0), none]) (s1 := [aI s0]) (h1 := h) rfl ?_
  refine A_ifc hM.1 rfl rfl (fun hc => ?_) (fun hc => ?_)
  · replace hh := OK_t hh hc
    refine A_blk hM.1 1 (lv1 := [some (aR 0), some (aI v1), some (aI v2), some (aI v3), some (aI v4), some (aI v5), some (aI s0), none]) (s1 := [aI (-1)]) (h1 := h) rfl ?_
    exact A_reti hM.1 rfl rfl rfl (hq ((-1), h) hh)
  · replace hh := OK_f hh hc
    refine A_blk hM.1 2 (lv1 := [some (aR 0), some (aI v1), some (aI v2), some (aI v3), some (aI v4), some (aI v5), some (aI s0), none]) (s1 := [aR 3]) (h1 := h) rfl ?_
    refine A_callV hM rfl rfl (mem_GW 669 (by decide +kernel) rfl) mi_X7_bits (As := []) (rest := []) (ct_X7_bits h (OK_bind hh)) (by decide) ⟨Nat.zero_le _, Nat.zero_le _⟩ rfl rfl (Nat.le_of_ble_eq_true rfl) (by decide) rfl (by decide) rfl (fun r F' h' hq1 => ?_)
    obtain ⟨rfl, r2, rfl, e9, hh⟩ := hq1
    subst h'
    refine A_blk hM.1 1 (lv1 := [some (aR 0), some (aI v1), some (aI v2), some (aI v3), some (aI v4), some (aI v5), some (aI s0), none]) (s1 := [aI 40, aI r2]) (h1 := h) rfl ?_
    refine A_icmp hM.1 rfl rfl (fun hc => ?_) (fun hc => ?_)
    · replace hh := OK_t hh hc
      refine A_blk hM.1 1 (lv1 := [some (aR 0), some (aI v1), some (aI v2), some (aI v3), some (aI v4), some (aI v5), some (aI s0), none]) (s1 := [aI (-1)]) (h1 := h) rfl ?_
      exact A_reti hM.1 rfl rfl rfl (hq ((-1), h) hh)
    · replace hh := OK_f hh hc
      refine A_blk hM.1 4 (lv1 := [some (aR 0), some (aI v1), some (aI v2), some (aI v3), some (aI v4), some (aI v5), some (aI s0), none]) (s1 := [aI 1, aI v5, aR 1]) (h1 := h) rfl ?_
      refine A_callV hM rfl rfl (mem_GW 644 (by decide +kernel) rfl) mi_X9_holds (As := [aI v5, aI 1]) (rest := []) (ct_X9_holds v5 1 h (OK_bind hh)) (by decide) ⟨Nat.zero_le _, Nat.zero_le _⟩ rfl rfl (Nat.le_of_ble_eq_true rfl) (by decide) rfl (by decide) rfl (fun r F' h' hq1 => ?_)
      obtain ⟨rfl, r3, rfl, e9, hh⟩ := hq1
      subst h'
      refine A_ifc hM.1 rfl rfl (fun hc => ?_) (fun hc => ?_)
      · replace hh := OK_t hh hc
        refine A_blk hM.1 2 (lv1 := [some (aR 0), some (aI v1), some (aI v2), some (aI v3), some (aI v4), some (aI v5), some (aI s0), none]) (s1 := [aI v5, aR 0]) (h1 := h) rfl ?_
        refine A_callV hM rfl rfl (mem_GW 673 (by decide +kernel) rfl) mi_X11_takeWords (As := [aI v5]) (rest := []) (ct_X11_takeWords v5 h (OK_bind hh)) (by decide) ⟨Nat.zero_le _, Nat.zero_le _⟩ rfl rfl (Nat.le_of_ble_eq_true rfl) (by decide) rfl (by decide) rfl (fun r F' h' hq1 => ?_)
        obtain ⟨rfl, r4, rfl, e9, hh⟩ := hq1
        subst h'
        refine A_blk hM.1 3 (lv1 := [some (aR 0), some (aI v1), some (aI v2), some (aI v3), some (aI v4), some (aI v5), some (aI s0), some (aI r4.1)]) (s1 := [aR 1]) (h1 := r4.2) rfl ?_
        refine A_callV hM rfl rfl (mem_GW 657 (by decide +kernel) rfl) mi_X9_clear (As := []) (rest := []) (ct_X9_clear r4.2 (OK_bind hh)) (by decide) ⟨Nat.zero_le _, Nat.zero_le _⟩ rfl rfl (Nat.le_of_ble_eq_true rfl) (by decide) rfl (by decide) rfl (fun r F' h' hq1 => ?_)
        obtain ⟨rfl, rfl, hh⟩ := hq1
        obtain ⟨r5, rfl⟩ : ∃ z, z = h' := ⟨_, rfl⟩
        refine A_blk hM.1 1 (lv1 := [some (aR 0), some (aI v1), some (aI v2), some (aI v3), some (aI v4), some (aI v5), some (aI s0), some (aI r4.1)]) (s1 := [aI r4.1]) (h1 := r5) rfl ?_
        refine A_ifc hM.1 rfl rfl (fun hc => ?_) (fun hc => ?_)
        · replace hh := OK_t hh hc
          refine A_blk hM.1 1 (lv1 := [some (aR 0), some (aI v1), some (aI v2), some (aI v3), some (aI v4), some (aI v5), some (aI s0), some (aI r4.1)]) (s1 := [aI (-2)]) (h1 := r5) rfl ?_
          exact A_reti hM.1 rfl rfl rfl (hq ((-2), r5) hh)
        · replace hh := OK_f hh hc
          refine A_blk hM.1 5 (lv1 := [some (aR 0), some (aI v1), some (aI v2), some (aI v3), some (aI v4), some (aI v5), some (aI s0), some (aI r4.1)]) (s1 := [aI v4, aI v3, aI v2, aI v1, aR 0]) (h1 := r5) rfl ?_
          refine A_callV hM rfl rfl (mem_GW 678 (by decide +kernel) rfl) mi_X11_keepBit (As := [aI v1, aI v2, aI v3, aI v4]) (rest := []) (ct_X11_keepBit v1 v2 v3 v4 r5 (OK_bind hh)) (by decide) ⟨Nat.zero_le _, Nat.zero_le _⟩ rfl rfl (Nat.le_of_ble_eq_true rfl) (by decide) rfl (by decide) rfl (fun r F' h' hq1 => ?_)
          obtain ⟨rfl, r6, rfl, e9, hh⟩ := hq1
          subst h'
          refine A_go hM.1 rfl rfl ?_
          exact A_reti hM.1 rfl rfl rfl (hq (r6.1, r6.2) hh)
      · replace hh := OK_f hh hc
        refine A_blk hM.1 1 (lv1 := [some (aR 0), some (aI v1), some (aI v2), some (aI v3), some (aI v4), some (aI v5), some (aI s0), none]) (s1 := [aI (-1)]) (h1 := h) rfl ?_
        exact A_reti hM.1 rfl rfl rfl (hq ((-1), h) hh)

set_option maxRecDepth 20000 in
set_option maxHeartbeats 4000000 in
theorem c_X11_bit_j30 {k0 : K0} {G : Gx} {Qp : Option AV → Fx → Hp → Prop} (hM : MB (KM k0 0 0 Qp) G M_X11_bit 4) (v1 : Int) (v2 : Int) (v3 : Int) (v4 : Int) (v5 : Int) (h : Hp)   {P : (Int × Hp) → Prop} (hq : ∀ z : Int × Hp, P z → Qp (some (aI z.1)) FN z.2) (hh : OK (X11_bit_j30 v1 v2 v3 v4 v5 h) P) : ATk (KM k0 0 0 Qp) FN 0 0 M_X11_bit 30 [some (aR 0), some (aI v1), some (aI v2), some (aI v3), some (aI v4), some (aI v5), none, none] [] h := by
  unfold X11_bit_j30 at hh
  refine A_blk hM.1 1 (lv1 := [some (aR 0), some (aI v1), some (aI v2), some (aI v3), some (aI v4), some (aI v5), none, none]) (s1 := [aI 0]) (h1 := h) rfl ?_
  exact c_X11_bit_j31 hM v1 v2 v3 v4 v5 0 h hq hh

set_option maxRecDepth 20000 in
set_option maxHeartbeats 4000000 in
theorem c_X11_bit_j13 {k0 : K0} {G : Gx} {Qp : Option AV → Fx → Hp → Prop} (hM : MB (KM k0 0 0 Qp) G M_X11_bit 4) (v1 : Int) (v2 : Int) (v3 : Int) (v4 : Int) (v5 : Int) (h : Hp)   {P : (Int × Hp) → Prop} (hq : ∀ z : Int × Hp, P z → Qp (some (aI z.1)) FN z.2) (hh : OK (X11_bit_j13 v1 v2 v3 v4 v5 h) P) : ATk (KM k0 0 0 Qp) FN 0 0 M_X11_bit 13 [some (aR 0), some (aI v1), some (aI v2), some (aI v3), some (aI v4), some (aI v5), none, none] [] h := by
  unfold X11_bit_j13 at hh
  refine A_blk hM.1 3 (lv1 := [some (aR 0), some (aI v1), some (aI v2), some (aI v3), some (aI v4), some (aI v5), none, none]) (s1 := [aI 40, aI 0, aI v3]) (h1 := h) rfl ?_
  refine A_callS hM rfl rfl (mem_GW 576 (by decide +kernel) rfl) mi_X11_within ms_X11_within (As := [aI v3, aI 0, aI 40]) (rest := []) (ct_X11_within v3 0 40 h (OK_bind hh)) (by decide) ⟨Nat.zero_le _, Nat.zero_le _⟩ rfl rfl (Nat.le_of_ble_eq_true rfl) (fun r F' h' hq1 => ?_)
  obtain ⟨rfl, r7, rfl, e9, hh⟩ := hq1
  subst h'
  refine A_ifc hM.1 rfl rfl (fun hc => ?_) (fun hc => ?_)
  · replace hh := OK_t hh hc
    exact c_X11_bit_j30 hM v1 v2 v3 v4 v5 h hq hh
  · replace hh := OK_f hh hc
    refine A_blk hM.1 3 (lv1 := [some (aR 0), some (aI v1), some (aI v2), some (aI v3), some (aI v4), some (aI v5), none, none]) (s1 := [aI 9, aI 0, aI v4]) (h1 := h) rfl ?_
    refine A_callS hM rfl rfl (mem_GW 576 (by decide +kernel) rfl) mi_X11_within ms_X11_within (As := [aI v4, aI 0, aI 9]) (rest := []) (ct_X11_within v4 0 9 h (OK_bind hh)) (by decide) ⟨Nat.zero_le _, Nat.zero_le _⟩ rfl rfl (Nat.le_of_ble_eq_true rfl) (fun r F' h' hq1 => ?_)
    obtain ⟨rfl, r8, rfl, e9, hh⟩ := hq1
    subst h'
    refine A_ifc hM.1 rfl rfl (fun hc => ?_) (fun hc => ?_)
    · replace hh := OK_t hh hc
      exact c_X11_bit_j30 hM v1 v2 v3 v4 v5 h hq hh
    · replace hh := OK_f hh hc
      refine A_blk hM.1 3 (lv1 := [some (aR 0), some (aI v1), some (aI v2), some (aI v3), some (aI v4), some (aI v5), none, none]) (s1 := [aI 8, aI 1, aI v5]) (h1 := h) rfl ?_
      refine A_callS hM rfl rfl (mem_GW 576 (by decide +kernel) rfl) mi_X11_within ms_X11_within (As := [aI v5, aI 1, aI 8]) (rest := []) (ct_X11_within v5 1 8 h (OK_bind hh)) (by decide) ⟨Nat.zero_le _, Nat.zero_le _⟩ rfl rfl (Nat.le_of_ble_eq_true rfl) (fun r F' h' hq1 => ?_)
      obtain ⟨rfl, r9, rfl, e9, hh⟩ := hq1
      subst h'
      refine A_ifc hM.1 rfl rfl (fun hc => ?_) (fun hc => ?_)
      · replace hh := OK_t hh hc
        exact c_X11_bit_j30 hM v1 v2 v3 v4 v5 h hq hh
      · replace hh := OK_f hh hc
        refine A_blk hM.1 1 (lv1 := [some (aR 0), some (aI v1), some (aI v2), some (aI v3), some (aI v4), some (aI v5), none, none]) (s1 := [aI 1]) (h1 := h) rfl ?_
        refine A_go hM.1 rfl rfl ?_
        exact c_X11_bit_j31 hM v1 v2 v3 v4 v5 1 h hq hh

set_option maxRecDepth 20000 in
set_option maxHeartbeats 4000000 in
theorem c_X11_bit {k0 : K0} {G : Gx} {Qp : Option AV → Fx → Hp → Prop} (hM : MB (KM k0 0 0 Qp) G M_X11_bit 4) (v1 : Int) (v2 : Int) (v3 : Int) (v4 : Int) (v5 : Int) (h : Hp)   {P : (Int × Hp) → Prop} (hq : ∀ z : Int × Hp, P z → Qp (some (aI z.1)) FN z.2) (hh : OK (X11_bit v1 v2 v3 v4 v5 h) P) : ATk (KM k0 0 0 Qp) FN 0 0 M_X11_bit 0 [some (aR 0), some (aI v1), some (aI v2), some (aI v3), some (aI v4), some (aI v5), none, none] [] h := by
  unfold X11_bit at hh
  refine A_blk hM.1 3 (lv1 := [some (aR 0), some (aI v1), some (aI v2), some (aI v3), some (aI v4), some (aI v5), none, none]) (s1 := [aI v1, aR 3]) (h1 := h) rfl ?_
  refine A_callV hM rfl rfl (mem_GW 665 (by decide +kernel) rfl) mi_X7_isWriter (As := [aI v1]) (rest := []) (ct_X7_isWriter v1 h (OK_bind hh)) (by decide) ⟨Nat.zero_le _, Nat.zero_le _⟩ rfl rfl (Nat.le_of_ble_eq_true rfl) (by decide) rfl (by decide) rfl (fun r F' h' hq1 => ?_)
  obtain ⟨rfl, r1, rfl, e9, hh⟩ := hq1
  subst h'
  refine A_ifc hM.1 rfl rfl (fun hc => ?_) (fun hc => ?_)
  · replace hh := OK_t hh hc
    exact c_X11_bit_j30 hM v1 v2 v3 v4 v5 h hq hh
  · replace hh := OK_f hh hc
    refine A_blk hM.1 2 (lv1 := [some (aR 0), some (aI v1), some (aI v2), some (aI v3), some (aI v4), some (aI v5), none, none]) (s1 := [aI (-1), aI v2]) (h1 := h) rfl ?_
    refine A_icmp hM.1 rfl rfl (fun hc => ?_) (fun hc => ?_)
    · replace hh := OK_t hh hc
      exact c_X11_bit_j13 hM v1 v2 v3 v4 v5 h hq hh
    · replace hh := OK_f hh hc
      refine A_blk hM.1 3 (lv1 := [some (aR 0), some (aI v1), some (aI v2), some (aI v3), some (aI v4), some (aI v5), none, none]) (s1 := [aI v2, aR 3]) (h1 := h) rfl ?_
      refine A_callV hM rfl rfl (mem_GW 632 (by decide +kernel) rfl) mi_X7_isWork (As := [aI v2]) (rest := []) (ct_X7_isWork v2 h (OK_bind hh)) (by decide) ⟨Nat.zero_le _, Nat.zero_le _⟩ rfl rfl (Nat.le_of_ble_eq_true rfl) (by decide) rfl (by decide) rfl (fun r F' h' hq1 => ?_)
      obtain ⟨rfl, r10, rfl, e9, hh⟩ := hq1
      subst h'
      refine A_ifc hM.1 rfl rfl (fun hc => ?_) (fun hc => ?_)
      · replace hh := OK_t hh hc
        exact c_X11_bit_j30 hM v1 v2 v3 v4 v5 h hq hh
      · replace hh := OK_f hh hc
        exact c_X11_bit_j13 hM v1 v2 v3 v4 v5 h hq hh

set_option maxRecDepth 20000 in
set_option maxHeartbeats 4000000 in
theorem ct_X11_bit {G : Gx} (v1 : Int) (v2 : Int) (v3 : Int) (v4 : Int) (v5 : Int) (h : Hp)   {P : (Int × Hp) → Prop} (hh : OK (X11_bit v1 v2 v3 v4 v5 h) P) : CT G yX11_bit M_X11_bit 4 0 0 FN h [aR 0, aI v1, aI v2, aI v3, aI v4, aI v5] (fun r F' h' => F' = FN ∧ ∃ z, r = some (aI z.1) ∧ h' = z.2 ∧ P z) :=
  CT.of (by decide +kernel) rfl (Nat.le_of_ble_eq_true rfl) k_X11_bit fun k0 _ _ hM => c_X11_bit hM v1 v2 v3 v4 v5 h (fun z hz => ⟨rfl, z, rfl, rfl, hz⟩) hh

theorem mi_X11_wayOf : MIv yX11_wayOf M_X11_wayOf 1 := ⟨⟨(mem_GW 706 (by decide +kernel) rfl), (mem_GW 123 (by decide +kernel) rfl), by decide +kernel, by decide +kernel, by decide +kernel, by decide⟩, (mem_GW 705 (by decide +kernel) rfl), (mem_GW 2 (by decide +kernel) rfl)⟩
set_option maxRecDepth 20000 in
set_option maxHeartbeats 4000000 in
theorem c_X11_wayOf_j15 {k0 : K0} {G : Gx} {Qp : Option AV → Fx → Hp → Prop} (hM : MB (KM k0 0 0 Qp) G M_X11_wayOf 2) (h : Hp)   {P : Option Nat → Prop} (hq : ∀ z : Option Nat, P z → Qp (some (aO z)) FN h) (hh : OK (X11_wayOf_j15 h) P) : ATk (KM k0 0 0 Qp) FN 0 0 M_X11_wayOf 15 [none, none] [] h := by
  unfold X11_wayOf_j15 at hh
  refine A_blk hM.1 1 (lv1 := [none, none]) (s1 := [aN]) (h1 := h) rfl ?_
  exact A_reta hM.1 rfl rfl rfl (hq none hh)

set_option maxRecDepth 20000 in
set_option maxHeartbeats 4000000 in
theorem c_X11_wayOf {k0 : K0} {G : Gx} {Qp : Option AV → Fx → Hp → Prop} (hM : MB (KM k0 0 0 Qp) G M_X11_wayOf 2) (v1 : Int) (h : Hp)   {P : (Option Nat) → Prop} (hq : ∀ z : Option Nat, P z → Qp (some (aO z)) FN h) (hh : OK (X11_wayOf v1 h) P) : ATk (KM k0 0 0 Qp) FN 0 0 M_X11_wayOf 0 [some (aR 0), some (aI v1)] [] h := by
  unfold X11_wayOf at hh
  refine A_blk hM.1 3 (lv1 := [some (aR 0), some (aI v1)]) (s1 := [aI v1, aR 3]) (h1 := h) rfl ?_
  refine A_callV hM rfl rfl (mem_GW 665 (by decide +kernel) rfl) mi_X7_isWriter (As := [aI v1]) (rest := []) (ct_X7_isWriter v1 h (OK_bind hh)) (by decide) ⟨Nat.zero_le _, Nat.zero_le _⟩ rfl rfl (Nat.le_of_ble_eq_true rfl) (by decide) rfl (by decide) rfl (fun r F' h' hq1 => ?_)
  obtain ⟨rfl, r1, rfl, e9, hh⟩ := hq1
  subst h'
  refine A_ifc hM.1 rfl rfl (fun hc => ?_) (fun hc => ?_)
  · replace hh := OK_t hh hc
    refine A_mask [false, false] (lv1 := [none, none]) rfl ?_
    exact c_X11_wayOf_j15 hM h hq hh
  · replace hh := OK_f hh hc
    refine A_blk hM.1 3 (lv1 := [some (aR 0), some (aI v1)]) (s1 := [aR 27, aI v1]) (h1 := h) rfl ?_
    refine A_alen hM.1 rfl (Or.inr (Or.inr (Or.inr rfl))) rfl (by decide) rfl ?_
    refine A_icmp hM.1 rfl rfl (fun hc => ?_) (fun hc => ?_)
    · replace hh := OK_t hh hc
      refine A_mask [false, false] (lv1 := [none, none]) rfl ?_
      exact c_X11_wayOf_j15 hM h hq hh
    · replace hh := OK_f hh hc
      refine A_blk hM.1 3 (lv1 := [some (aR 0), some (aI v1)]) (s1 := [aI v1, aR 27]) (h1 := h) rfl ?_
      obtain ⟨g2, hh⟩ := OK_g hh
      refine A_aald hM.1 rfl rfl rfl (by decide) rfl g2 (q := some (86 + 8 * (w32 v1).toNat)) (wt_get g2) (wt_lt g2) ?_
      refine A_go hM.1 rfl rfl ?_
      exact A_reta hM.1 rfl rfl rfl (hq (some (86 + 8 * (w32 v1).toNat)) hh)

set_option maxRecDepth 20000 in
set_option maxHeartbeats 4000000 in
theorem ct_X11_wayOf {G : Gx} (v1 : Int) (h : Hp)   {P : (Option Nat) → Prop} (hh : OK (X11_wayOf v1 h) P) : CT G yX11_wayOf M_X11_wayOf 2 0 0 FN h [aR 0, aI v1] (fun r F' h' => F' = FN ∧ ∃ z, r = some (aO z) ∧ h' = h ∧ P z) :=
  CT.of (by decide +kernel) rfl (Nat.le_of_ble_eq_true rfl) k_X11_wayOf fun k0 _ _ hM => c_X11_wayOf hM v1 h (fun z hz => ⟨rfl, z, rfl, rfl, hz⟩) hh

theorem mi_X10_clear : MIv yX10_clear M_X10_clear 0 := ⟨⟨(mem_GW 718 (by decide +kernel) rfl), (mem_GW 127 (by decide +kernel) rfl), by decide +kernel, by decide +kernel, by decide +kernel, by decide⟩, (mem_GW 716 (by decide +kernel) rfl), (mem_GW 717 (by decide +kernel) rfl)⟩
set_option maxRecDepth 20000 in
set_option maxHeartbeats 4000000 in
theorem c_X10_clear {k0 : K0} {G : Gx} {Qp : Option AV → Fx → Hp → Prop} (hM : MB (KM k0 0 0 Qp) G M_X10_clear 1) (t : Nat) (h : Hp)  (ht : t ∈ txL) {P : Hp → Prop} (hq : ∀ z : Hp, P z → Qp none FN z) (hh : OK (X10_clear t h) P) : ATk (KM k0 0 0 Qp) FN 0 0 M_X10_clear 0 [some (aR t)] [] h := by
  unfold X10_clear at hh
  refine A_blk hM.1 2 (lv1 := [some (aR t)]) (s1 := [aI 0, aR t]) (h1 := h) rfl ?_
  refine A_pi hM.1 rfl rfl rfl (tx_k0 ht) (tx_l0 ht) rfl rfl ?_
  refine A_blk hM.1 2 (lv1 := [some (aR t)]) (s1 := [aI 0, aR t]) (h1 := setH h t 0 0) rfl ?_
  refine A_pi hM.1 rfl rfl rfl (tx_k0 ht) (tx_l0 ht) rfl rfl ?_
  exact A_retv hM.1 rfl rfl rfl (hq (setH (setH h t 0 0) t 1 0) hh)

set_option maxRecDepth 20000 in
set_option maxHeartbeats 4000000 in
theorem ct_X10_clear {G : Gx} (t : Nat) (h : Hp)  (ht : t ∈ txL) {P : Hp → Prop} (hh : OK (X10_clear t h) P) : CT G yX10_clear M_X10_clear 1 0 0 FN h [aR t] (fun r F' h' => F' = FN ∧ r = none ∧ P h') :=
  CT.of (by decide +kernel) rfl (Nat.le_of_ble_eq_true rfl) k_X10_clear fun k0 _ _ hM => c_X10_clear hM t h ht (fun z hz => ⟨rfl, rfl, hz⟩) hh

theorem mi_X6_next : MIv yX6_next M_X6_next 0 := ⟨⟨(mem_GW 730 (by decide +kernel) rfl), (mem_GW 126 (by decide +kernel) rfl), by decide +kernel, by decide +kernel, by decide +kernel, by decide⟩, (mem_GW 729 (by decide +kernel) rfl), (mem_GW 6 (by decide +kernel) rfl)⟩
set_option maxRecDepth 20000 in
set_option maxHeartbeats 4000000 in
theorem c_X6_next {k0 : K0} {G : Gx} {Qp : Option AV → Fx → Hp → Prop} (hM : MB (KM k0 0 0 Qp) G M_X6_next 2) (h : Hp)   {P : Int → Prop} (hq : ∀ z : Int, P z → Qp (some (aI z)) FN h) (hh : OK (X6_next h) P) : ATk (KM k0 0 0 Qp) FN 0 0 M_X6_next 0 [some (aR 18)] [] h := by
  unfold X6_next at hh
  refine A_blk hM.1 4 (lv1 := [some (aR 18)]) (s1 := [aI (h 18 2), aI (h 18 3)]) (h1 := h) rfl ?_
  refine A_icmp hM.1 rfl rfl (fun hc => ?_) (fun hc => ?_)
  · replace hh := OK_t hh hc
    refine A_blk hM.1 1 (lv1 := [some (aR 18)]) (s1 := [aI (-1)]) (h1 := h) rfl ?_
    exact A_reti hM.1 rfl rfl rfl (hq (-1) hh)
  · replace hh := OK_f hh hc
    refine A_blk hM.1 4 (lv1 := [some (aR 18)]) (s1 := [aI (h 18 3), aR 1]) (h1 := h) rfl ?_
    refine A_callV hM rfl rfl (mem_GW 731 (by decide +kernel) rfl) mi_X9_byteAt (As := [aI (h 18 3)]) (rest := []) (ct_X9_byteAt (h 18 3) h (OK_bind hh)) (by decide) ⟨Nat.zero_le _, Nat.zero_le _⟩ rfl rfl (Nat.le_of_ble_eq_true rfl) (by decide) rfl (by decide) rfl (fun r F' h' hq1 => ?_)
    obtain ⟨rfl, r1, rfl, e9, hh⟩ := hq1
    subst h'
    refine A_go hM.1 rfl rfl ?_
    exact A_reti hM.1 rfl rfl rfl (hq r1 hh)

set_option maxRecDepth 20000 in
set_option maxHeartbeats 4000000 in
theorem ct_X6_next {G : Gx} (h : Hp)   {P : Int → Prop} (hh : OK (X6_next h) P) : CT G yX6_next M_X6_next 2 0 0 FN h [aR 18] (fun r F' h' => F' = FN ∧ ∃ z, r = some (aI z) ∧ h' = h ∧ P z) :=
  CT.of (by decide +kernel) rfl (Nat.le_of_ble_eq_true rfl) k_X6_next fun k0 _ _ hM => c_X6_next hM h (fun z hz => ⟨rfl, z, rfl, rfl, hz⟩) hh

theorem mi_X6_nextIsOf : MIv yX6_nextIsOf M_X6_nextIsOf 1 := ⟨⟨(mem_GW 726 (by decide +kernel) rfl), (mem_GW 126 (by decide +kernel) rfl), by decide +kernel, by decide +kernel, by decide +kernel, by decide⟩, (mem_GW 725 (by decide +kernel) rfl), (mem_GW 5 (by decide +kernel) rfl)⟩
set_option maxRecDepth 20000 in
set_option maxHeartbeats 4000000 in
theorem c_X6_nextIsOf {k0 : K0} {G : Gx} {Qp : Option AV → Fx → Hp → Prop} (hM : MB (KM k0 0 0 Qp) G M_X6_nextIsOf 10) (w : Nat) (h : Hp)  (hw : w < 10) {P : Int → Prop} (hq : ∀ z : Int, P z → Qp (some (aI z)) FN h) (hh : OK (X6_nextIsOf w h) P) : ATk (KM k0 0 0 Qp) FN 0 0 M_X6_nextIsOf 0 [some (aR 18), some (aR (1000 + w)), none] [] h := by
  unfold X6_nextIsOf at hh
  refine A_blk hM.1 1 (lv1 := [some (aR 18), some (aR (1000 + w)), none]) (s1 := [aR 18]) (h1 := h) rfl ?_
  refine A_callV hM rfl rfl (mem_GW 727 (by decide +kernel) rfl) mi_X6_next (As := []) (rest := []) (ct_X6_next h (OK_bind hh)) (by decide) ⟨Nat.zero_le _, Nat.zero_le _⟩ rfl rfl (Nat.le_of_ble_eq_true rfl) (by decide) rfl (by decide) rfl (fun r F' h' hq1 => ?_)
  obtain ⟨rfl, r1, rfl, e9, hh⟩ := hq1
  subst h'
  refine A_blk hM.1 3 (lv1 := [some (aR 18), some (aR (1000 + w)), some (aI r1)]) (s1 := [aI (h 18 4)]) (h1 := h) rfl ?_
  refine A_ifc hM.1 rfl rfl (fun hc => ?_) (fun hc => ?_)
  · replace hh := OK_t hh hc
    refine A_blk hM.1 1 (lv1 := [some (aR 18), some (aR (1000 + w)), some (aI r1)]) (s1 := [aI 0]) (h1 := h) rfl ?_
    exact A_retz hM.1 rfl rfl rfl (by decide) (hq 0 hh)
  · replace hh := OK_f hh hc
    refine A_blk hM.1 1 (lv1 := [some (aR 18), some (aR (1000 + w)), some (aI r1)]) (s1 := [aI r1]) (h1 := h) rfl ?_
    refine A_ifc hM.1 rfl rfl (fun hc => ?_) (fun hc => ?_)
    · replace hh := OK_t hh hc
      refine A_blk hM.1 1 (lv1 := [some (aR 18), some (aR (1000 + w)), some (aI r1)]) (s1 := [aI 0]) (h1 := h) rfl ?_
      exact A_retz hM.1 rfl rfl rfl (by decide) (hq 0 hh)
    · replace hh := OK_f hh hc
      refine A_blk hM.1 3 (lv1 := [some (aR 18), some (aR (1000 + w)), some (aI r1)]) (s1 := [aI (c16 r1), aR (1000 + w)]) (h1 := h) rfl ?_
      refine A_idx hM (j := w) hw rfl rfl (mem_GW 732 (by decide +kernel) rfl) (by decide) (Nat.le_of_ble_eq_true rfl) ?_
      refine A_ifc hM.1 rfl rfl (fun hc => ?_) (fun hc => ?_)
      · replace hh := OK_t hh hc
        refine A_blk hM.1 1 (lv1 := [some (aR 18), some (aR (1000 + w)), some (aI r1)]) (s1 := [aI 0]) (h1 := h) rfl ?_
        exact A_retz hM.1 rfl rfl rfl (by decide) (hq 0 hh)
      · replace hh := OK_f hh hc
        refine A_blk hM.1 1 (lv1 := [some (aR 18), some (aR (1000 + w)), some (aI r1)]) (s1 := [aI 1]) (h1 := h) rfl ?_
        refine A_go hM.1 rfl rfl ?_
        exact A_retz hM.1 rfl rfl rfl (by decide) (hq 1 hh)

set_option maxRecDepth 20000 in
set_option maxHeartbeats 4000000 in
theorem ct_X6_nextIsOf {G : Gx} (w : Nat) (h : Hp)  (hw : w < 10) {P : Int → Prop} (hh : OK (X6_nextIsOf w h) P) : CT G yX6_nextIsOf M_X6_nextIsOf 10 0 0 FN h [aR 18, aR (1000 + w)] (fun r F' h' => F' = FN ∧ ∃ z, r = some (aI z) ∧ h' = h ∧ P z) :=
  CT.of (by decide +kernel) rfl (Nat.le_of_ble_eq_true rfl) k_X6_nextIsOf fun k0 _ _ hM => c_X6_nextIsOf hM w h hw (fun z hz => ⟨rfl, z, rfl, rfl, hz⟩) hh

theorem mi_X6_blame : MIv yX6_blame M_X6_blame 1 := ⟨⟨(mem_GW 821 (by decide +kernel) rfl), (mem_GW 126 (by decide +kernel) rfl), by decide +kernel, by decide +kernel, by decide +kernel, by decide⟩, (mem_GW 820 (by decide +kernel) rfl), (mem_GW 7 (by decide +kernel) rfl)⟩
set_option maxRecDepth 20000 in
set_option maxHeartbeats 4000000 in
theorem c_X6_blame {k0 : K0} {G : Gx} {Qp : Option AV → Fx → Hp → Prop} (hM : MB (KM k0 0 0 Qp) G M_X6_blame 1) (v1 : Int) (h : Hp)   {P : Hp → Prop} (hq : ∀ z : Hp, P z → Qp none FN z) (hh : OK (X6_blame v1 h) P) : ATk (KM k0 0 0 Qp) FN 0 0 M_X6_blame 0 [some (aR 18), some (aI v1)] [] h := by
  unfold X6_blame at hh
  refine A_blk hM.1 2 (lv1 := [some (aR 18), some (aI v1)]) (s1 := [aI (h 18 4)]) (h1 := h) rfl ?_
  refine A_ifc hM.1 rfl rfl (fun hc => ?_) (fun hc => ?_)
  · replace hh := OK_t hh hc
    exact A_retv hM.1 rfl rfl rfl (hq h hh)
  · replace hh := OK_f hh hc
    refine A_blk hM.1 8 (lv1 := [some (aR 18), some (aI v1)]) (s1 := []) (h1 := setH h 18 4 (((-1000) * v1) - (h 18 3))) rfl ?_
    exact A_retv hM.1 rfl rfl rfl (hq (setH h 18 4 (((-1000) * v1) - (h 18 3))) hh)

set_option maxRecDepth 20000 in
set_option maxHeartbeats 4000000 in
theorem ct_X6_blame {G : Gx} (v1 : Int) (h : Hp)   {P : Hp → Prop} (hh : OK (X6_blame v1 h) P) : CT G yX6_blame M_X6_blame 1 0 0 FN h [aR 18, aI v1] (fun r F' h' => F' = FN ∧ r = none ∧ P h') :=
  CT.of (by decide +kernel) rfl (Nat.le_of_ble_eq_true rfl) k_X6_blame fun k0 _ _ hM => c_X6_blame hM v1 h (fun z hz => ⟨rfl, rfl, hz⟩) hh

theorem mi_X10_clauses : MIv yX10_clauses M_X10_clauses 0 := ⟨⟨(mem_GW 825 (by decide +kernel) rfl), (mem_GW 127 (by decide +kernel) rfl), by decide +kernel, by decide +kernel, by decide +kernel, by decide⟩, (mem_GW 823 (by decide +kernel) rfl), (mem_GW 824 (by decide +kernel) rfl)⟩
set_option maxRecDepth 20000 in
set_option maxHeartbeats 4000000 in
theorem c_X10_clauses {k0 : K0} {G : Gx} {Qp : Option AV → Fx → Hp → Prop} (hM : MB (KM k0 0 0 Qp) G M_X10_clauses 1) (t : Nat) (h : Hp)  (ht : t ∈ txL) {P : Int → Prop} (hq : ∀ z : Int, P z → Qp (some (aI z)) FN h) (hh : OK (X10_clauses t h) P) : ATk (KM k0 0 0 Qp) FN 0 0 M_X10_clauses 0 [some (aR t)] [] h := by
  unfold X10_clauses at hh
  refine A_blk hM.1 1 (lv1 := [some (aR t)]) (s1 := [aR t]) (h1 := h) rfl ?_
  refine A_gi hM.1 rfl rfl rfl (tx_k0 ht) (tx_l0 ht) rfl ?_
  exact A_reti hM.1 rfl rfl rfl (hq (h t 0) hh)

set_option maxRecDepth 20000 in
set_option maxHeartbeats 4000000 in
theorem ct_X10_clauses {G : Gx} (t : Nat) (h : Hp)  (ht : t ∈ txL) {P : Int → Prop} (hh : OK (X10_clauses t h) P) : CT G yX10_clauses M_X10_clauses 1 0 0 FN h [aR t] (fun r F' h' => F' = FN ∧ ∃ z, r = some (aI z) ∧ h' = h ∧ P z) :=
  CT.of (by decide +kernel) rfl (Nat.le_of_ble_eq_true rfl) k_X10_clauses fun k0 _ _ hM => c_X10_clauses hM t h ht (fun z hz => ⟨rfl, z, rfl, rfl, hz⟩) hh

theorem mi_X6_opens : MIv yX6_opens M_X6_opens 1 := ⟨⟨(mem_GW 841 (by decide +kernel) rfl), (mem_GW 126 (by decide +kernel) rfl), by decide +kernel, by decide +kernel, by decide +kernel, by decide⟩, (mem_GW 840 (by decide +kernel) rfl), (mem_GW 11 (by decide +kernel) rfl)⟩
set_option maxRecDepth 20000 in
set_option maxHeartbeats 4000000 in
theorem c_X6_opens {k0 : K0} {G : Gx} {Qp : Option AV → Fx → Hp → Prop} (hM : MB (KM k0 0 0 Qp) G M_X6_opens 2) (v1 : Int) (h : Hp)   {P : (Int × Hp) → Prop} (hq : ∀ z : Int × Hp, P z → Qp (some (aI z.1)) FN z.2) (hh : OK (X6_opens v1 h) P) : ATk (KM k0 0 0 Qp) FN 0 0 M_X6_opens 0 [some (aR 18), some (aI v1)] [] h := by
  unfold X6_opens at hh
  refine A_blk hM.1 2 (lv1 := [some (aR 18), some (aI v1)]) (s1 := [aI 6, aI v1]) (h1 := h) rfl ?_
  refine A_icmp hM.1 rfl rfl (fun hc => ?_) (fun hc => ?_)
  · replace hh := OK_t hh hc
    refine A_blk hM.1 7 (lv1 := [some (aR 18), some (aI v1)]) (s1 := [aI 1]) (h1 := setH h 18 3 ((h 18 3) + 1)) rfl ?_
    exact A_retz hM.1 rfl rfl rfl (by decide) (hq (1, setH h 18 3 ((h 18 3) + 1)) hh)
  · replace hh := OK_f hh hc
    refine A_blk hM.1 2 (lv1 := [some (aR 18), some (aI v1)]) (s1 := [aI 5, aR 18]) (h1 := h) rfl ?_
    refine A_callV hM rfl rfl (mem_GW 818 (by decide +kernel) rfl) mi_X6_blame (As := [aI 5]) (rest := []) (ct_X6_blame 5 h (OK_bind hh)) (by decide) ⟨Nat.zero_le _, Nat.zero_le _⟩ rfl rfl (Nat.le_of_ble_eq_true rfl) (by decide) rfl (by decide) rfl (fun r F' h' hq1 => ?_)
    obtain ⟨rfl, rfl, hh⟩ := hq1
    obtain ⟨r1, rfl⟩ : ∃ z, z = h' := ⟨_, rfl⟩
    refine A_blk hM.1 1 (lv1 := [some (aR 18), some (aI v1)]) (s1 := [aI 0]) (h1 := r1) rfl ?_
    exact A_retz hM.1 rfl rfl rfl (by decide) (hq (0, r1) hh)

set_option maxRecDepth 20000 in
set_option maxHeartbeats 4000000 in
theorem ct_X6_opens {G : Gx} (v1 : Int) (h : Hp)   {P : (Int × Hp) → Prop} (hh : OK (X6_opens v1 h) P) : CT G yX6_opens M_X6_opens 2 0 0 FN h [aR 18, aI v1] (fun r F' h' => F' = FN ∧ ∃ z, r = some (aI z.1) ∧ h' = z.2 ∧ P z) :=
  CT.of (by decide +kernel) rfl (Nat.le_of_ble_eq_true rfl) k_X6_opens fun k0 _ _ hM => c_X6_opens hM v1 h (fun z hz => ⟨rfl, z, rfl, rfl, hz⟩) hh

theorem mi_X6_expect : MIv yX6_expect M_X6_expect 1 := ⟨⟨(mem_GW 845 (by decide +kernel) rfl), (mem_GW 126 (by decide +kernel) rfl), by decide +kernel, by decide +kernel, by decide +kernel, by decide⟩, (mem_GW 844 (by decide +kernel) rfl), (mem_GW 12 (by decide +kernel) rfl)⟩
set_option maxRecDepth 20000 in
set_option maxHeartbeats 4000000 in
theorem c_X6_expect_j14 {k0 : K0} {G : Gx} {Qp : Option AV → Fx → Hp → Prop} (hM : MB (KM k0 0 0 Qp) G M_X6_expect 3) (h : Hp)   {P : Hp → Prop} (hq : ∀ z : Hp, P z → Qp none FN z) (hh : OK (X6_expect_j14 h) P) : ATk (KM k0 0 0 Qp) FN 0 0 M_X6_expect 14 [some (aR 18), none] [] h := by
  unfold X6_expect_j14 at hh
  refine A_blk hM.1 2 (lv1 := [some (aR 18), none]) (s1 := [aI 1, aR 18]) (h1 := h) rfl ?_
  refine A_callV hM rfl rfl (mem_GW 818 (by decide +kernel) rfl) mi_X6_blame (As := [aI 1]) (rest := []) (ct_X6_blame 1 h (OK_bind hh)) (by decide) ⟨Nat.zero_le _, Nat.zero_le _⟩ rfl rfl (Nat.le_of_ble_eq_true rfl) (by decide) rfl (by decide) rfl (fun r F' h' hq1 => ?_)
  obtain ⟨rfl, rfl, hh⟩ := hq1
  obtain ⟨r2, rfl⟩ : ∃ z, z = h' := ⟨_, rfl⟩
  exact A_retv hM.1 rfl rfl rfl (hq r2 hh)

set_option maxRecDepth 20000 in
set_option maxHeartbeats 4000000 in
theorem c_X6_expect {k0 : K0} {G : Gx} {Qp : Option AV → Fx → Hp → Prop} (hM : MB (KM k0 0 0 Qp) G M_X6_expect 3) (v1 : Int) (h : Hp)   {P : Hp → Prop} (hq : ∀ z : Hp, P z → Qp none FN z) (hh : OK (X6_expect v1 h) P) : ATk (KM k0 0 0 Qp) FN 0 0 M_X6_expect 0 [some (aR 18), some (aI v1)] [] h := by
  unfold X6_expect at hh
  refine A_blk hM.1 1 (lv1 := [some (aR 18), some (aI v1)]) (s1 := [aR 18]) (h1 := h) rfl ?_
  refine A_callV hM rfl rfl (mem_GW 727 (by decide +kernel) rfl) mi_X6_next (As := []) (rest := []) (ct_X6_next h (OK_bind hh)) (by decide) ⟨Nat.zero_le _, Nat.zero_le _⟩ rfl rfl (Nat.le_of_ble_eq_true rfl) (by decide) rfl (by decide) rfl (fun r F' h' hq1 => ?_)
  obtain ⟨rfl, r1, rfl, e9, hh⟩ := hq1
  subst h'
  refine A_blk hM.1 1 (lv1 := [some (aR 18), some (aI v1)]) (s1 := [aI v1, aI r1]) (h1 := h) rfl ?_
  refine A_icmp hM.1 rfl rfl (fun hc => ?_) (fun hc => ?_)
  · replace hh := OK_t hh hc
    refine A_mask [true, false] (lv1 := [some (aR 18), none]) rfl ?_
    exact c_X6_expect_j14 hM h hq hh
  · replace hh := OK_f hh hc
    refine A_blk hM.1 2 (lv1 := [some (aR 18), some (aI v1)]) (s1 := [aI (h 18 4)]) (h1 := h) rfl ?_
    refine A_ifc hM.1 rfl rfl (fun hc => ?_) (fun hc => ?_)
    · replace hh := OK_t hh hc
      refine A_mask [true, false] (lv1 := [some (aR 18), none]) rfl ?_
      exact c_X6_expect_j14 hM h hq hh
    · replace hh := OK_f hh hc
      refine A_blk hM.1 6 (lv1 := [some (aR 18), some (aI v1)]) (s1 := []) (h1 := setH h 18 3 ((h 18 3) + 1)) rfl ?_
      refine A_go hM.1 rfl rfl ?_
      exact A_retv hM.1 rfl rfl rfl (hq (setH h 18 3 ((h 18 3) + 1)) hh)

set_option maxRecDepth 20000 in
set_option maxHeartbeats 4000000 in
theorem ct_X6_expect {G : Gx} (v1 : Int) (h : Hp)   {P : Hp → Prop} (hh : OK (X6_expect v1 h) P) : CT G yX6_expect M_X6_expect 3 0 0 FN h [aR 18, aI v1] (fun r F' h' => F' = FN ∧ r = none ∧ P h') :=
  CT.of (by decide +kernel) rfl (Nat.le_of_ble_eq_true rfl) k_X6_expect fun k0 _ _ hM => c_X6_expect hM v1 h (fun z hz => ⟨rfl, rfl, hz⟩) hh

theorem mi_X10_add : MIv yX10_add M_X10_add 2 := ⟨⟨(mem_GW 854 (by decide +kernel) rfl), (mem_GW 127 (by decide +kernel) rfl), by decide +kernel, by decide +kernel, by decide +kernel, by decide⟩, (mem_GW 852 (by decide +kernel) rfl), (mem_GW 853 (by decide +kernel) rfl)⟩
set_option maxRecDepth 20000 in
set_option maxHeartbeats 4000000 in
theorem c_X10_add {k0 : K0} {G : Gx} {Qp : Option AV → Fx → Hp → Prop} (hM : MB (KM k0 0 0 Qp) G M_X10_add 2) (t : Nat) (v1 : Int) (v2 : Int) (h : Hp)  (ht : t ∈ txL) {P : Hp → Prop} (hq : ∀ z : Hp, P z → Qp none FN z) (hh : OK (X10_add t v1 v2 h) P) : ATk (KM k0 0 0 Qp) FN 0 0 M_X10_add 0 [some (aR t), some (aI v1), some (aI v2)] [] h := by
  unfold X10_add at hh
  refine A_blk hM.1 1 (lv1 := [some (aR t), some (aI v1), some (aI v2)]) (s1 := [aR t]) (h1 := h) rfl ?_
  refine A_gr hM.1 rfl rfl rfl (tx_k0 ht) (tx_l0 ht) (Nat.lt_trans (tx_l4 ht) NF_lt) (tx_r5 ht) rfl ?_
  refine A_blk hM.1 1 (lv1 := [some (aR t), some (aI v1), some (aI v2)]) (s1 := [aR t, aR (t + 4)]) (h1 := h) rfl ?_
  refine A_gi hM.1 rfl rfl rfl (tx_k0 ht) (tx_l0 ht) rfl ?_
  refine A_blk hM.1 1 (lv1 := [some (aR t), some (aI v1), some (aI v2)]) (s1 := [aI v1, aI (h t 1), aR (t + 4)]) (h1 := h) rfl ?_
  refine A_callSN (host := "QuotedBooks") hM rfl rfl (mem_NW 855 (by decide +kernel) rfl) mi_X11_put ms_X11_put (As := [aR (t + 4), aI (h t 1), aI v1]) (rest := []) (ct_X11_put (t + 4) 160 (h t 1) v1 h (tx_k4 ht) (tx_n4 ht) (OK_bind hh)) (by decide) ⟨Nat.zero_le _, Nat.zero_le _⟩ rfl rfl (Nat.le_of_ble_eq_true rfl) (fun r F' h' hq1 => ?_)
  obtain ⟨rfl, rfl, hh⟩ := hq1
  obtain ⟨r1, rfl⟩ : ∃ z, z = h' := ⟨_, rfl⟩
  refine A_blk hM.1 1 (lv1 := [some (aR t), some (aI v1), some (aI v2)]) (s1 := [aR t]) (h1 := r1) rfl ?_
  refine A_gr hM.1 rfl rfl rfl (tx_k0 ht) (tx_l0 ht) (Nat.lt_trans (tx_l5 ht) NF_lt) (tx_r6 ht) rfl ?_
  refine A_blk hM.1 1 (lv1 := [some (aR t), some (aI v1), some (aI v2)]) (s1 := [aR t, aR (t + 5)]) (h1 := r1) rfl ?_
  refine A_gi hM.1 rfl rfl rfl (tx_k0 ht) (tx_l0 ht) rfl ?_
  refine A_blk hM.1 1 (lv1 := [some (aR t), some (aI v1), some (aI v2)]) (s1 := [aI v2, aI (r1 t 1), aR (t + 5)]) (h1 := r1) rfl ?_
  refine A_callSN (host := "QuotedBooks") hM rfl rfl (mem_NW 855 (by decide +kernel) rfl) mi_X11_put ms_X11_put (As := [aR (t + 5), aI (r1 t 1), aI v2]) (rest := []) (ct_X11_put (t + 5) 160 (r1 t 1) v2 r1 (tx_k5 ht) (tx_n5 ht) (OK_bind hh)) (by decide) ⟨Nat.zero_le _, Nat.zero_le _⟩ rfl rfl (Nat.le_of_ble_eq_true rfl) (fun r F' h' hq1 => ?_)
  obtain ⟨rfl, rfl, hh⟩ := hq1
  obtain ⟨r2, rfl⟩ : ∃ z, z = h' := ⟨_, rfl⟩
  refine A_blk hM.1 2 (lv1 := [some (aR t), some (aI v1), some (aI v2)]) (s1 := [aR t, aR t]) (h1 := r2) rfl ?_
  refine A_gi hM.1 rfl rfl rfl (tx_k0 ht) (tx_l0 ht) rfl ?_
  refine A_blk hM.1 2 (lv1 := [some (aR t), some (aI v1), some (aI v2)]) (s1 := [aI ((r2 t 1) + 1), aR t]) (h1 := r2) rfl ?_
  refine A_pi hM.1 rfl rfl rfl (tx_k0 ht) (tx_l0 ht) rfl rfl ?_
  exact A_retv hM.1 rfl rfl rfl (hq (setH r2 t 1 ((r2 t 1) + 1)) hh)

set_option maxRecDepth 20000 in
set_option maxHeartbeats 4000000 in
theorem ct_X10_add {G : Gx} (t : Nat) (v1 : Int) (v2 : Int) (h : Hp)  (ht : t ∈ txL) {P : Hp → Prop} (hh : OK (X10_add t v1 v2 h) P) : CT G yX10_add M_X10_add 2 0 0 FN h [aR t, aI v1, aI v2] (fun r F' h' => F' = FN ∧ r = none ∧ P h') :=
  CT.of (by decide +kernel) rfl (Nat.le_of_ble_eq_true rfl) k_X10_add fun k0 _ _ hM => c_X10_add hM t v1 v2 h ht (fun z hz => ⟨rfl, rfl, hz⟩) hh

theorem mi_X6_readNumber : MIv yX6_readNumber M_X6_readNumber 0 := ⟨⟨(mem_GW 850 (by decide +kernel) rfl), (mem_GW 126 (by decide +kernel) rfl), by decide +kernel, by decide +kernel, by decide +kernel, by decide⟩, (mem_GW 849 (by decide +kernel) rfl), (mem_GW 13 (by decide +kernel) rfl)⟩
set_option maxRecDepth 20000 in
set_option maxHeartbeats 4000000 in
theorem c_X6_readNumber_l4 {k0 : K0} {G : Gx} {Qp : Option AV → Fx → Hp → Prop} (hM : MB (KM k0 0 0 Qp) G M_X6_readNumber 3) (x : Int × Int × Hp)   {P : ((Int × Int × Hp) ⊕ ((Hp) ⊕ (Int × Hp))) → Prop} (hin : ∀ y : Int × Int × Hp, P (.inl y) → ATk (KM k0 0 0 Qp) FN 0 0 M_X6_readNumber 4 [some (aR 18), some (aI y.1), some (aI y.2.1)] [] y.2.2) (hout0 : ∀ y : Hp, P (.inr (.inl y)) → ATk (KM k0 0 0 Qp) FN 0 0 M_X6_readNumber 16 [some (aR 18), none, none] [] y) (hout1 : ∀ y : Int × Hp, P (.inr (.inr y)) → ATk (KM k0 0 0 Qp) FN 0 0 M_X6_readNumber 37 [some (aR 18), some (aI y.1), none] [] y.2) (hh : OK (X6_readNumber_l4 x) P) : ATk (KM k0 0 0 Qp) FN 0 0 M_X6_readNumber 4 [some (aR 18), some (aI x.1), some (aI x.2.1)] [] x.2.2 := by
  unfold X6_readNumber_l4 at hh
  refine A_blk hM.1 2 (lv1 := [some (aR 18), some (aI x.1), some (aI x.2.1)]) (s1 := [aI 5, aI x.2.1]) (h1 := x.2.2) rfl ?_
  refine A_icmp hM.1 rfl rfl (fun hc => ?_) (fun hc => ?_)
  · replace hh := OK_t hh hc
    refine A_mask [true, true, false] (lv1 := [some (aR 18), some (aI x.1), none]) rfl ?_
    exact hout1 (x.1, x.2.2) hh
  · replace hh := OK_f hh hc
    refine A_blk hM.1 1 (lv1 := [some (aR 18), some (aI x.1), some (aI x.2.1)]) (s1 := [aR 18]) (h1 := x.2.2) rfl ?_
    refine A_callV hM rfl rfl (mem_GW 727 (by decide +kernel) rfl) mi_X6_next (As := []) (rest := []) (ct_X6_next x.2.2 (OK_bind hh)) (by decide) ⟨Nat.zero_le _, Nat.zero_le _⟩ rfl rfl (Nat.le_of_ble_eq_true rfl) (by decide) rfl (by decide) rfl (fun r F' h' hq1 => ?_)
    obtain ⟨rfl, r1, rfl, e9, hh⟩ := hq1
    subst h'
    refine A_blk hM.1 2 (lv1 := [some (aR 18), some (aI x.1), some (aI x.2.1)]) (s1 := [aI 57, aI 48, aI r1]) (h1 := x.2.2) rfl ?_
    refine A_callSN (host := "QuotedBooks") hM rfl rfl (mem_NW 846 (by decide +kernel) rfl) mi_X11_within ms_X11_within (As := [aI r1, aI 48, aI 57]) (rest := []) (ct_X11_within r1 48 57 x.2.2 (OK_bind hh)) (by decide) ⟨Nat.zero_le _, Nat.zero_le _⟩ rfl rfl (Nat.le_of_ble_eq_true rfl) (fun r F' h' hq1 => ?_)
    obtain ⟨rfl, r2, rfl, e9, hh⟩ := hq1
    subst h'
    refine A_ifc hM.1 rfl rfl (fun hc => ?_) (fun hc => ?_)
    · replace hh := OK_t hh hc
      refine A_mask [true, true, false] (lv1 := [some (aR 18), some (aI x.1), none]) rfl ?_
      exact hout1 (x.1, x.2.2) hh
    · replace hh := OK_f hh hc
      refine A_blk hM.1 2 (lv1 := [some (aR 18), some (aI x.1), some (aI x.2.1)]) (s1 := [aI 5, aI x.2.1]) (h1 := x.2.2) rfl ?_
      refine A_icmp hM.1 rfl rfl (fun hc => ?_) (fun hc => ?_)
      · replace hh := OK_t hh hc
        refine A_blk hM.1 4 (lv1 := [some (aR 18), some (aI x.1), some (aI x.2.1)]) (s1 := [aR 18, aI (x.1 * 10)]) (h1 := x.2.2) rfl ?_
        refine A_callV hM rfl rfl (mem_GW 727 (by decide +kernel) rfl) mi_X6_next (As := []) (rest := [aI (x.1 * 10)]) (ct_X6_next x.2.2 (OK_bind hh)) (by decide) ⟨Nat.zero_le _, Nat.zero_le _⟩ rfl rfl (Nat.le_of_ble_eq_true rfl) (by decide) rfl (by decide) rfl (fun r F' h' hq1 => ?_)
        obtain ⟨rfl, r3, rfl, e9, hh⟩ := hq1
        subst h'
        refine A_blk hM.1 11 (lv1 := [some (aR 18), some (aI (((x.1 * 10) + r3) - 48)), some (aI (x.2.1 + 1))]) (s1 := []) (h1 := setH x.2.2 18 3 ((x.2.2 18 3) + 1)) rfl ?_
        refine A_go hM.1 rfl rfl ?_
        exact hin (((x.1 * 10) + r3) - 48, x.2.1 + 1, setH x.2.2 18 3 ((x.2.2 18 3) + 1)) hh
      · replace hh := OK_f hh hc
        refine A_mask [true, false, false] (lv1 := [some (aR 18), none, none]) rfl ?_
        exact hout0 x.2.2 hh

set_option maxRecDepth 20000 in
set_option maxHeartbeats 4000000 in
theorem c_X6_readNumber {k0 : K0} {G : Gx} {Qp : Option AV → Fx → Hp → Prop} (hM : MB (KM k0 0 0 Qp) G M_X6_readNumber 3) (h : Hp)   {P : Hp → Prop} (hq : ∀ z : Hp, P z → Qp none FN z) (hh : OK (X6_readNumber h) P) : ATk (KM k0 0 0 Qp) FN 0 0 M_X6_readNumber 0 [some (aR 18), none, none] [] h := by
  unfold X6_readNumber at hh
  refine A_blk hM.1 4 (lv1 := [some (aR 18), some (aI 0), some (aI 0)]) (s1 := []) (h1 := h) rfl ?_
  refine iter_ok (s := (0, 0, h)) (Gp := fun z => ATk (KM k0 0 0 Qp) FN 0 0 M_X6_readNumber 4 [some (aR 18), some (aI z.1), some (aI z.2.1)] [] z.2.2) (E := fun z => (∀ y, z = (.inl y) → ATk (KM k0 0 0 Qp) FN 0 0 M_X6_readNumber 16 [some (aR 18), none, none] [] y) ∧ (∀ y, z = (.inr y) → ATk (KM k0 0 0 Qp) FN 0 0 M_X6_readNumber 37 [some (aR 18), some (aI y.1), none] [] y.2)) (fun z P1 g1 g2 g3 => c_X6_readNumber_l4 hM  z g2 (fun y hy => (g3 (.inl y) hy).1 y rfl) (fun y hy => (g3 (.inr y) hy).2 y rfl) g1) (OK_bind hh) (fun x4 hh => ?_)
  refine ⟨fun y e => ?_, fun y e => ?_⟩
  · obtain ⟨y5, rfl⟩ : ∃ z, z = y := ⟨_, rfl⟩
    subst e
    refine A_blk hM.1 2 (lv1 := [some (aR 18), none, none]) (s1 := [aI 2, aR 18]) (h1 := y5) rfl ?_
    refine A_callV hM rfl rfl (mem_GW 818 (by decide +kernel) rfl) mi_X6_blame (As := [aI 2]) (rest := []) (ct_X6_blame 2 y5 (OK_bind hh)) (by decide) ⟨Nat.zero_le _, Nat.zero_le _⟩ rfl rfl (Nat.le_of_ble_eq_true rfl) (by decide) rfl (by decide) rfl (fun r F' h' hq1 => ?_)
    obtain ⟨rfl, rfl, hh⟩ := hq1
    obtain ⟨r6, rfl⟩ : ∃ z, z = h' := ⟨_, rfl⟩
    exact A_retv hM.1 rfl rfl rfl (hq r6 hh)
  · obtain ⟨y7, rfl⟩ : ∃ z, z = y := ⟨_, rfl⟩
    subst e
    refine A_blk hM.1 4 (lv1 := [some (aR 18), some (aI y7.1), none]) (s1 := [aI y7.1, aI 1, aR 19]) (h1 := y7.2) rfl ?_
    refine A_callV hM rfl rfl (mem_GW 851 (by decide +kernel) rfl) mi_X10_add (As := [aI 1, aI y7.1]) (rest := []) (ct_X10_add 19 1 y7.1 y7.2 (by decide) (OK_bind hh)) (by decide) ⟨Nat.zero_le _, Nat.zero_le _⟩ rfl rfl (Nat.le_of_ble_eq_true rfl) (by decide) rfl (by decide) rfl (fun r F' h' hq1 => ?_)
    obtain ⟨rfl, rfl, hh⟩ := hq1
    obtain ⟨r8, rfl⟩ : ∃ z, z = h' := ⟨_, rfl⟩
    exact A_retv hM.1 rfl rfl rfl (hq r8 hh)

set_option maxRecDepth 20000 in
set_option maxHeartbeats 4000000 in
theorem ct_X6_readNumber {G : Gx} (h : Hp)   {P : Hp → Prop} (hh : OK (X6_readNumber h) P) : CT G yX6_readNumber M_X6_readNumber 3 0 0 FN h [aR 18] (fun r F' h' => F' = FN ∧ r = none ∧ P h') :=
  CT.of (by decide +kernel) rfl (Nat.le_of_ble_eq_true rfl) k_X6_readNumber fun k0 _ _ hM => c_X6_readNumber hM h (fun z hz => ⟨rfl, rfl, hz⟩) hh

theorem mi_X6_readFactor : MIv yX6_readFactor M_X6_readFactor 1 := ⟨⟨(mem_GW 837 (by decide +kernel) rfl), (mem_GW 126 (by decide +kernel) rfl), by decide +kernel, by decide +kernel, by decide +kernel, by decide⟩, (mem_GW 836 (by decide +kernel) rfl), (mem_GW 10 (by decide +kernel) rfl)⟩
theorem mi_X6_readTerm : MIv yX6_readTerm M_X6_readTerm 1 := ⟨⟨(mem_GW 833 (by decide +kernel) rfl), (mem_GW 126 (by decide +kernel) rfl), by decide +kernel, by decide +kernel, by decide +kernel, by decide⟩, (mem_GW 832 (by decide +kernel) rfl), (mem_GW 9 (by decide +kernel) rfl)⟩
theorem mi_X6_readSum : MIv yX6_readSum M_X6_readSum 1 := ⟨⟨(mem_GW 829 (by decide +kernel) rfl), (mem_GW 126 (by decide +kernel) rfl), by decide +kernel, by decide +kernel, by decide +kernel, by decide⟩, (mem_GW 828 (by decide +kernel) rfl), (mem_GW 8 (by decide +kernel) rfl)⟩
def RC41 (G : Gx) (tag d : Nat) (v : Int) (h : Hp) (P : Hp → Prop) : Prop := match tag with
  | 0 => CT G yX6_readFactor M_X6_readFactor d 0 0 FN h [aR 18, aI v] (fun r F' h' => F' = FN ∧ r = none ∧ P h')
  | 1 => CT G yX6_readTerm M_X6_readTerm d 0 0 FN h [aR 18, aI v] (fun r F' h' => F' = FN ∧ r = none ∧ P h')
  | _ => CT G yX6_readSum M_X6_readSum d 0 0 FN h [aR 18, aI v] (fun r F' h' => F' = FN ∧ r = none ∧ P h')
set_option maxRecDepth 20000 in
set_option maxHeartbeats 4000000 in
theorem c_X6_readFactor {d : Nat} {k0 : K0} {G : Gx} {Qp : Option AV → Fx → Hp → Prop} (hM : MB (KM k0 0 0 Qp) G M_X6_readFactor (d + 1)) (rec : Nat → Int → Hp → Option Hp) (v1 : Int) (h : Hp)  (hrec : ∀ (tag : Nat) (v : Int) (h : Hp) (P : Hp → Prop), OK (rec tag v h) P → RC41 G tag d v h P) (hd : 11 ≤ d) {P : Hp → Prop} (hq : ∀ z : Hp, P z → Qp none FN z) (hh : OK (X6_readFactor rec v1 h) P) : ATk (KM k0 0 0 Qp) FN 0 0 M_X6_readFactor 0 [some (aR 18), some (aI v1), none] [] h := by
  unfold X6_readFactor at hh
  refine A_blk hM.1 2 (lv1 := [some (aR 18), some (aI v1), none]) (s1 := [aI (h 18 4)]) (h1 := h) rfl ?_
  refine A_ifc hM.1 rfl rfl (fun hc => ?_) (fun hc => ?_)
  · replace hh := OK_t hh hc
    refine A_blk hM.1 1 (lv1 := [some (aR 18), some (aI v1), none]) (s1 := [aR 18]) (h1 := h) rfl ?_
    refine A_callV hM rfl rfl (mem_GW 727 (by decide +kernel) rfl) mi_X6_next (As := []) (rest := []) (ct_X6_next h (OK_bind hh)) (by omega) ⟨Nat.zero_le _, Nat.zero_le _⟩ rfl rfl (Nat.le_of_ble_eq_true rfl) (by decide) rfl (by decide) rfl (fun r F' h' hq1 => ?_)
    obtain ⟨rfl, r1, rfl, e9, hh⟩ := hq1
    subst h'
    refine A_blk hM.1 3 (lv1 := [some (aR 18), some (aI v1), some (aI r1)]) (s1 := [aI 91, aI r1]) (h1 := h) rfl ?_
    refine A_icmp hM.1 rfl rfl (fun hc => ?_) (fun hc => ?_)
    · replace hh := OK_t hh hc
      refine A_blk hM.1 3 (lv1 := [some (aR 18), some (aI v1), some (aI r1)]) (s1 := [aI 57, aI 48, aI r1]) (h1 := h) rfl ?_
      refine A_callSN (host := "QuotedBooks") hM rfl rfl (mem_NW 846 (by decide +kernel) rfl) mi_X11_within ms_X11_within (As := [aI r1, aI 48, aI 57]) (rest := []) (ct_X11_within r1 48 57 h (OK_bind hh)) (by omega) ⟨Nat.zero_le _, Nat.zero_le _⟩ rfl rfl (Nat.le_of_ble_eq_true rfl) (fun r F' h' hq1 => ?_)
      obtain ⟨rfl, r2, rfl, e9, hh⟩ := hq1
      subst h'
      refine A_ifc hM.1 rfl rfl (fun hc => ?_) (fun hc => ?_)
      · replace hh := OK_t hh hc
        refine A_blk hM.1 1 (lv1 := [some (aR 18), some (aI v1), some (aI r1)]) (s1 := [aR 18]) (h1 := h) rfl ?_
        refine A_ldcs hM.1 rfl rfl (j := 1) (by decide) rfl rfl ?_
        refine A_callV hM rfl rfl (mem_GW 723 (by decide +kernel) rfl) mi_X6_nextIsOf (As := [aR 1001]) (rest := []) (ct_X6_nextIsOf 1 h (by decide) (OK_bind hh)) (by omega) ⟨Nat.zero_le _, Nat.zero_le _⟩ rfl rfl (Nat.le_of_ble_eq_true rfl) (by decide) rfl (by decide) rfl (fun r F' h' hq1 => ?_)
        obtain ⟨rfl, r3, rfl, e9, hh⟩ := hq1
        subst h'
        refine A_ifc hM.1 rfl rfl (fun hc => ?_) (fun hc => ?_)
        · replace hh := OK_t hh hc
          refine A_blk hM.1 2 (lv1 := [some (aR 18), some (aI v1), some (aI r1)]) (s1 := [aI 1, aR 18]) (h1 := h) rfl ?_
          refine A_callV hM rfl rfl (mem_GW 818 (by decide +kernel) rfl) mi_X6_blame (As := [aI 1]) (rest := []) (ct_X6_blame 1 h (OK_bind hh)) (by omega) ⟨Nat.zero_le _, Nat.zero_le _⟩ rfl rfl (Nat.le_of_ble_eq_true rfl) (by decide) rfl (by decide) rfl (fun r F' h' hq1 => ?_)
          obtain ⟨rfl, rfl, hh⟩ := hq1
          obtain ⟨r4, rfl⟩ : ∃ z, z = h' := ⟨_, rfl⟩
          exact A_retv hM.1 rfl rfl rfl (hq r4 hh)
        · replace hh := OK_f hh hc
          refine A_blk hM.1 6 (lv1 := [some (aR 18), some (aI v1), some (aI r1)]) (s1 := [aI (r1 - 97), aI 2, aR 19]) (h1 := h) rfl ?_
          refine A_callV hM rfl rfl (mem_GW 851 (by decide +kernel) rfl) mi_X10_add (As := [aI 2, aI (r1 - 97)]) (rest := []) (ct_X10_add 19 2 (r1 - 97) h (by decide) (OK_bind hh)) (by omega) ⟨Nat.zero_le _, Nat.zero_le _⟩ rfl rfl (Nat.le_of_ble_eq_true rfl) (by decide) rfl (by decide) rfl (fun r F' h' hq1 => ?_)
          obtain ⟨rfl, rfl, hh⟩ := hq1
          obtain ⟨r5, rfl⟩ : ∃ z, z = h' := ⟨_, rfl⟩
          refine A_blk hM.1 6 (lv1 := [some (aR 18), some (aI v1), some (aI r1)]) (s1 := []) (h1 := setH r5 18 3 ((r5 18 3) + 1)) rfl ?_
          refine A_go hM.1 rfl rfl ?_
          exact A_retv hM.1 rfl rfl rfl (hq (setH r5 18 3 ((r5 18 3) + 1)) hh)
      · replace hh := OK_f hh hc
        refine A_blk hM.1 1 (lv1 := [some (aR 18), some (aI v1), some (aI r1)]) (s1 := [aR 18]) (h1 := h) rfl ?_
        refine A_callV hM rfl rfl (mem_GW 847 (by decide +kernel) rfl) mi_X6_readNumber (As := []) (rest := []) (ct_X6_readNumber h (OK_bind hh)) (by omega) ⟨Nat.zero_le _, Nat.zero_le _⟩ rfl rfl (Nat.le_of_ble_eq_true rfl) (by decide) rfl (by decide) rfl (fun r F' h' hq1 => ?_)
        obtain ⟨rfl, rfl, hh⟩ := hq1
        obtain ⟨r6, rfl⟩ : ∃ z, z = h' := ⟨_, rfl⟩
        refine A_go hM.1 rfl rfl ?_
        exact A_retv hM.1 rfl rfl rfl (hq r6 hh)
    · replace hh := OK_f hh hc
      refine A_blk hM.1 4 (lv1 := [some (aR 18), some (aI v1), some (aI r1)]) (s1 := [aI (v1 + 1), aR 18]) (h1 := h) rfl ?_
      refine A_callV hM rfl rfl (mem_GW 838 (by decide +kernel) rfl) mi_X6_opens (As := [aI (v1 + 1)]) (rest := []) (ct_X6_opens (v1 + 1) h (OK_bind hh)) (by omega) ⟨Nat.zero_le _, Nat.zero_le _⟩ rfl rfl (Nat.le_of_ble_eq_true rfl) (by decide) rfl (by decide) rfl (fun r F' h' hq1 => ?_)
      obtain ⟨rfl, r7, rfl, e9, hh⟩ := hq1
      subst h'
      refine A_ifc hM.1 rfl rfl (fun hc => ?_) (fun hc => ?_)
      · replace hh := OK_t hh hc
        exact A_retv hM.1 rfl rfl rfl (hq r7.2 hh)
      · replace hh := OK_f hh hc
        refine A_blk hM.1 4 (lv1 := [some (aR 18), some (aI v1), some (aI r1)]) (s1 := [aI (v1 + 1), aR 18]) (h1 := r7.2) rfl ?_
        refine A_callV hM rfl rfl (mem_GW 826 (by decide +kernel) rfl) mi_X6_readSum (As := [aI (v1 + 1)]) (rest := []) (hrec 2 _ _ _ (OK_bind hh)) (Nat.lt_succ_self _) ⟨Nat.zero_le _, Nat.zero_le _⟩ rfl rfl (Nat.le_of_ble_eq_true rfl) (by decide) rfl (by decide) rfl (fun r F' h' hq1 => ?_)
        obtain ⟨rfl, rfl, hh⟩ := hq1
        obtain ⟨r8, rfl⟩ : ∃ z, z = h' := ⟨_, rfl⟩
        refine A_blk hM.1 2 (lv1 := [some (aR 18), some (aI v1), some (aI r1)]) (s1 := [aI 93, aR 18]) (h1 := r8) rfl ?_
        refine A_callV hM rfl rfl (mem_GW 842 (by decide +kernel) rfl) mi_X6_expect (As := [aI 93]) (rest := []) (ct_X6_expect 93 r8 (OK_bind hh)) (by omega) ⟨Nat.zero_le _, Nat.zero_le _⟩ rfl rfl (Nat.le_of_ble_eq_true rfl) (by decide) rfl (by decide) rfl (fun r F' h' hq1 => ?_)
        obtain ⟨rfl, rfl, hh⟩ := hq1
        obtain ⟨r9, rfl⟩ : ∃ z, z = h' := ⟨_, rfl⟩
        refine A_go hM.1 rfl rfl ?_
        exact A_retv hM.1 rfl rfl rfl (hq r9 hh)
  · replace hh := OK_f hh hc
    exact A_retv hM.1 rfl rfl rfl (hq h hh)

set_option maxRecDepth 20000 in
set_option maxHeartbeats 4000000 in
theorem ct_X6_readFactor {d : Nat} {G : Gx} (rec : Nat → Int → Hp → Option Hp) (v1 : Int) (h : Hp)  (hrec : ∀ (tag : Nat) (v : Int) (h : Hp) (P : Hp → Prop), OK (rec tag v h) P → RC41 G tag d v h P) (hd : 11 ≤ d) {P : Hp → Prop} (hh : OK (X6_readFactor rec v1 h) P) : CT G yX6_readFactor M_X6_readFactor (d + 1) 0 0 FN h [aR 18, aI v1] (fun r F' h' => F' = FN ∧ r = none ∧ P h') :=
  CT.of (by decide +kernel) rfl (Nat.le_of_ble_eq_true rfl) k_X6_readFactor fun k0 _ _ hM => c_X6_readFactor hM rec v1 h hrec hd (fun z hz => ⟨rfl, rfl, hz⟩) hh
set_option maxRecDepth 20000 in
set_option maxHeartbeats 4000000 in
theorem c_X6_readTerm_l5 {d : Nat} {k0 : K0} {G : Gx} {Qp : Option AV → Fx → Hp → Prop} (hM : MB (KM k0 0 0 Qp) G M_X6_readTerm (d + 1)) (rec : Nat → Int → Hp → Option Hp) (v1 : Int) (x : Int × Hp)  (hrec : ∀ (tag : Nat) (v : Int) (h : Hp) (P : Hp → Prop), OK (rec tag v h) P → RC41 G tag d v h P) (hd : 11 ≤ d) {P : ((Int × Hp) ⊕ (Hp)) → Prop} (hin : ∀ y : Int × Hp, P (.inl y) → ATk (KM k0 0 0 Qp) FN 0 0 M_X6_readTerm 5 [some (aR 18), some (aI v1), some (aI y.1), none] [] y.2) (hout0 : ∀ y : Hp, P (.inr y) → ATk (KM k0 0 0 Qp) FN 0 0 M_X6_readTerm 31 [none, none, none, none] [] y) (hh : OK (X6_readTerm_l5 rec v1 x) P) : ATk (KM k0 0 0 Qp) FN 0 0 M_X6_readTerm 5 [some (aR 18), some (aI v1), some (aI x.1), none] [] x.2 := by
  unfold X6_readTerm_l5 at hh
  refine A_blk hM.1 2 (lv1 := [some (aR 18), some (aI v1), some (aI x.1), none]) (s1 := [aI 160, aI x.1]) (h1 := x.2) rfl ?_
  refine A_icmp hM.1 rfl rfl (fun hc => ?_) (fun hc => ?_)
  · replace hh := OK_t hh hc
    refine A_mask [false, false, false, true] (lv1 := [none, none, none, none]) rfl ?_
    exact hout0 x.2 hh
  · replace hh := OK_f hh hc
    refine A_blk hM.1 1 (lv1 := [some (aR 18), some (aI v1), some (aI x.1), none]) (s1 := [aR 18]) (h1 := x.2) rfl ?_
    refine A_ldcs hM.1 rfl rfl (j := 2) (by decide) rfl rfl ?_
    refine A_callV hM rfl rfl (mem_GW 723 (by decide +kernel) rfl) mi_X6_nextIsOf (As := [aR 1002]) (rest := []) (ct_X6_nextIsOf 2 x.2 (by decide) (OK_bind hh)) (by omega) ⟨Nat.zero_le _, Nat.zero_le _⟩ rfl rfl (Nat.le_of_ble_eq_true rfl) (by decide) rfl (by decide) rfl (fun r F' h' hq1 => ?_)
    obtain ⟨rfl, r2, rfl, e9, hh⟩ := hq1
    subst h'
    refine A_ifc hM.1 rfl rfl (fun hc => ?_) (fun hc => ?_)
    · replace hh := OK_t hh hc
      refine A_mask [false, false, false, true] (lv1 := [none, none, none, none]) rfl ?_
      exact hout0 x.2 hh
    · replace hh := OK_f hh hc
      refine A_blk hM.1 1 (lv1 := [some (aR 18), some (aI v1), some (aI x.1), none]) (s1 := [aR 18]) (h1 := x.2) rfl ?_
      refine A_callV hM rfl rfl (mem_GW 727 (by decide +kernel) rfl) mi_X6_next (As := []) (rest := []) (ct_X6_next x.2 (OK_bind hh)) (by omega) ⟨Nat.zero_le _, Nat.zero_le _⟩ rfl rfl (Nat.le_of_ble_eq_true rfl) (by decide) rfl (by decide) rfl (fun r F' h' hq1 => ?_)
      obtain ⟨rfl, r3, rfl, e9, hh⟩ := hq1
      subst h'
      refine A_blk hM.1 9 (lv1 := [some (aR 18), some (aI v1), some (aI x.1), some (aI r3)]) (s1 := [aI v1, aR 18]) (h1 := setH x.2 18 3 ((x.2 18 3) + 1)) rfl ?_
      refine A_callV hM rfl rfl (mem_GW 834 (by decide +kernel) rfl) mi_X6_readFactor (As := [aI v1]) (rest := []) (hrec 0 _ _ _ (OK_bind hh)) (Nat.lt_succ_self _) ⟨Nat.zero_le _, Nat.zero_le _⟩ rfl rfl (Nat.le_of_ble_eq_true rfl) (by decide) rfl (by decide) rfl (fun r F' h' hq1 => ?_)
      obtain ⟨rfl, rfl, hh⟩ := hq1
      obtain ⟨r4, rfl⟩ : ∃ z, z = h' := ⟨_, rfl⟩
      refine A_blk hM.1 4 (lv1 := [some (aR 18), some (aI v1), some (aI x.1), some (aI r3)]) (s1 := [aI 0, aI r3, aR 19]) (h1 := r4) rfl ?_
      refine A_callV hM rfl rfl (mem_GW 851 (by decide +kernel) rfl) mi_X10_add (As := [aI r3, aI 0]) (rest := []) (ct_X10_add 19 r3 0 r4 (by decide) (OK_bind hh)) (by omega) ⟨Nat.zero_le _, Nat.zero_le _⟩ rfl rfl (Nat.le_of_ble_eq_true rfl) (by decide) rfl (by decide) rfl (fun r F' h' hq1 => ?_)
      obtain ⟨rfl, rfl, hh⟩ := hq1
      obtain ⟨r5, rfl⟩ : ∃ z, z = h' := ⟨_, rfl⟩
      refine A_blk hM.1 1 (lv1 := [some (aR 18), some (aI v1), some (aI (x.1 + 1)), some (aI r3)]) (s1 := []) (h1 := r5) rfl ?_
      refine A_go hM.1 rfl rfl ?_
      refine A_mask [true, true, true, false] (lv1 := [some (aR 18), some (aI v1), some (aI (x.1 + 1)), none]) rfl ?_
      exact hin (x.1 + 1, r5) hh

set_option maxRecDepth 20000 in
set_option maxHeartbeats 4000000 in
theorem c_X6_readTerm {d : Nat} {k0 : K0} {G : Gx} {Qp : Option AV → Fx → Hp → Prop} (hM : MB (KM k0 0 0 Qp) G M_X6_readTerm (d + 1)) (rec : Nat → Int → Hp → Option Hp) (v1 : Int) (h : Hp)  (hrec : ∀ (tag : Nat) (v : Int) (h : Hp) (P : Hp → Prop), OK (rec tag v h) P → RC41 G tag d v h P) (hd : 11 ≤ d) {P : Hp → Prop} (hq : ∀ z : Hp, P z → Qp none FN z) (hh : OK (X6_readTerm rec v1 h) P) : ATk (KM k0 0 0 Qp) FN 0 0 M_X6_readTerm 0 [some (aR 18), some (aI v1), none, none] [] h := by
  unfold X6_readTerm at hh
  refine A_blk hM.1 2 (lv1 := [some (aR 18), some (aI v1), none, none]) (s1 := [aI v1, aR 18]) (h1 := h) rfl ?_
  refine A_callV hM rfl rfl (mem_GW 834 (by decide +kernel) rfl) mi_X6_readFactor (As := [aI v1]) (rest := []) (hrec 0 _ _ _ (OK_bind hh)) (Nat.lt_succ_self _) ⟨Nat.zero_le _, Nat.zero_le _⟩ rfl rfl (Nat.le_of_ble_eq_true rfl) (by decide) rfl (by decide) rfl (fun r F' h' hq1 => ?_)
  obtain ⟨rfl, rfl, hh⟩ := hq1
  obtain ⟨r1, rfl⟩ : ∃ z, z = h' := ⟨_, rfl⟩
  refine A_blk hM.1 2 (lv1 := [some (aR 18), some (aI v1), some (aI 0), none]) (s1 := []) (h1 := r1) rfl ?_
  refine iter_ok (s := (0, r1)) (Gp := fun z => ATk (KM k0 0 0 Qp) FN 0 0 M_X6_readTerm 5 [some (aR 18), some (aI v1), some (aI z.1), none] [] z.2) (E := fun z => ATk (KM k0 0 0 Qp) FN 0 0 M_X6_readTerm 31 [none, none, none, none] [] z) (fun z P1 g1 g2 g3 => c_X6_readTerm_l5 hM rec v1 z hrec hd g2 g3 g1) (OK_bind hh) (fun x6 hh => ?_)
  exact A_retv hM.1 rfl rfl rfl (hq x6 hh)

set_option maxRecDepth 20000 in
set_option maxHeartbeats 4000000 in
theorem ct_X6_readTerm {d : Nat} {G : Gx} (rec : Nat → Int → Hp → Option Hp) (v1 : Int) (h : Hp)  (hrec : ∀ (tag : Nat) (v : Int) (h : Hp) (P : Hp → Prop), OK (rec tag v h) P → RC41 G tag d v h P) (hd : 11 ≤ d) {P : Hp → Prop} (hh : OK (X6_readTerm rec v1 h) P) : CT G yX6_readTerm M_X6_readTerm (d + 1) 0 0 FN h [aR 18, aI v1] (fun r F' h' => F' = FN ∧ r = none ∧ P h') :=
  CT.of (by decide +kernel) rfl (Nat.le_of_ble_eq_true rfl) k_X6_readTerm fun k0 _ _ hM => c_X6_readTerm hM rec v1 h hrec hd (fun z hz => ⟨rfl, rfl, hz⟩) hh
set_option maxRecDepth 20000 in
set_option maxHeartbeats 4000000 in
theorem c_X6_readSum_l5 {d : Nat} {k0 : K0} {G : Gx} {Qp : Option AV → Fx → Hp → Prop} (hM : MB (KM k0 0 0 Qp) G M_X6_readSum (d + 1)) (rec : Nat → Int → Hp → Option Hp) (v1 : Int) (x : Int × Hp)  (hrec : ∀ (tag : Nat) (v : Int) (h : Hp) (P : Hp → Prop), OK (rec tag v h) P → RC41 G tag d v h P) (hd : 11 ≤ d) {P : ((Int × Hp) ⊕ (Hp)) → Prop} (hin : ∀ y : Int × Hp, P (.inl y) → ATk (KM k0 0 0 Qp) FN 0 0 M_X6_readSum 5 [some (aR 18), some (aI v1), some (aI y.1), none] [] y.2) (hout0 : ∀ y : Hp, P (.inr y) → ATk (KM k0 0 0 Qp) FN 0 0 M_X6_readSum 31 [none, none, none, none] [] y) (hh : OK (X6_readSum_l5 rec v1 x) P) : ATk (KM k0 0 0 Qp) FN 0 0 M_X6_readSum 5 [some (aR 18), some (aI v1), some (aI x.1), none] [] x.2 := by
  unfold X6_readSum_l5 at hh
  refine A_blk hM.1 2 (lv1 := [some (aR 18), some (aI v1), some (aI x.1), none]) (s1 := [aI 160, aI x.1]) (h1 := x.2) rfl ?_
  refine A_icmp hM.1 rfl rfl (fun hc => ?_) (fun hc => ?_)
  · replace hh := OK_t hh hc
    refine A_mask [false, false, false, true] (lv1 := [none, none, none, none]) rfl ?_
    exact hout0 x.2 hh
  · replace hh := OK_f hh hc
    refine A_blk hM.1 1 (lv1 := [some (aR 18), some (aI v1), some (aI x.1), none]) (s1 := [aR 18]) (h1 := x.2) rfl ?_
    refine A_ldcs hM.1 rfl rfl (j := 3) (by decide) rfl rfl ?_
    refine A_callV hM rfl rfl (mem_GW 723 (by decide +kernel) rfl) mi_X6_nextIsOf (As := [aR 1003]) (rest := []) (ct_X6_nextIsOf 3 x.2 (by decide) (OK_bind hh)) (by omega) ⟨Nat.zero_le _, Nat.zero_le _⟩ rfl rfl (Nat.le_of_ble_eq_true rfl) (by decide) rfl (by decide) rfl (fun r F' h' hq1 => ?_)
    obtain ⟨rfl, r2, rfl, e9, hh⟩ := hq1
    subst h'
    refine A_ifc hM.1 rfl rfl (fun hc => ?_) (fun hc => ?_)
    · replace hh := OK_t hh hc
      refine A_mask [false, false, false, true] (lv1 := [none, none, none, none]) rfl ?_
      exact hout0 x.2 hh
    · replace hh := OK_f hh hc
      refine A_blk hM.1 1 (lv1 := [some (aR 18), some (aI v1), some (aI x.1), none]) (s1 := [aR 18]) (h1 := x.2) rfl ?_
      refine A_callV hM rfl rfl (mem_GW 727 (by decide +kernel) rfl) mi_X6_next (As := []) (rest := []) (ct_X6_next x.2 (OK_bind hh)) (by omega) ⟨Nat.zero_le _, Nat.zero_le _⟩ rfl rfl (Nat.le_of_ble_eq_true rfl) (by decide) rfl (by decide) rfl (fun r F' h' hq1 => ?_)
      obtain ⟨rfl, r3, rfl, e9, hh⟩ := hq1
      subst h'
      refine A_blk hM.1 9 (lv1 := [some (aR 18), some (aI v1), some (aI x.1), some (aI r3)]) (s1 := [aI v1, aR 18]) (h1 := setH x.2 18 3 ((x.2 18 3) + 1)) rfl ?_
      refine A_callV hM rfl rfl (mem_GW 830 (by decide +kernel) rfl) mi_X6_readTerm (As := [aI v1]) (rest := []) (hrec 1 _ _ _ (OK_bind hh)) (Nat.lt_succ_self _) ⟨Nat.zero_le _, Nat.zero_le _⟩ rfl rfl (Nat.le_of_ble_eq_true rfl) (by decide) rfl (by decide) rfl (fun r F' h' hq1 => ?_)
      obtain ⟨rfl, rfl, hh⟩ := hq1
      obtain ⟨r4, rfl⟩ : ∃ z, z = h' := ⟨_, rfl⟩
      refine A_blk hM.1 4 (lv1 := [some (aR 18), some (aI v1), some (aI x.1), some (aI r3)]) (s1 := [aI 0, aI r3, aR 19]) (h1 := r4) rfl ?_
      refine A_callV hM rfl rfl (mem_GW 851 (by decide +kernel) rfl) mi_X10_add (As := [aI r3, aI 0]) (rest := []) (ct_X10_add 19 r3 0 r4 (by decide) (OK_bind hh)) (by omega) ⟨Nat.zero_le _, Nat.zero_le _⟩ rfl rfl (Nat.le_of_ble_eq_true rfl) (by decide) rfl (by decide) rfl (fun r F' h' hq1 => ?_)
      obtain ⟨rfl, rfl, hh⟩ := hq1
      obtain ⟨r5, rfl⟩ : ∃ z, z = h' := ⟨_, rfl⟩
      refine A_blk hM.1 1 (lv1 := [some (aR 18), some (aI v1), some (aI (x.1 + 1)), some (aI r3)]) (s1 := []) (h1 := r5) rfl ?_
      refine A_go hM.1 rfl rfl ?_
      refine A_mask [true, true, true, false] (lv1 := [some (aR 18), some (aI v1), some (aI (x.1 + 1)), none]) rfl ?_
      exact hin (x.1 + 1, r5) hh

set_option maxRecDepth 20000 in
set_option maxHeartbeats 4000000 in
theorem c_X6_readSum {d : Nat} {k0 : K0} {G : Gx} {Qp : Option AV → Fx → Hp → Prop} (hM : MB (KM k0 0 0 Qp) G M_X6_readSum (d + 1)) (rec : Nat → Int → Hp → Option Hp) (v1 : Int) (h : Hp)  (hrec : ∀ (tag : Nat) (v : Int) (h : Hp) (P : Hp → Prop), OK (rec tag v h) P → RC41 G tag d v h P) (hd : 11 ≤ d) {P : Hp → Prop} (hq : ∀ z : Hp, P z → Qp none FN z) (hh : OK (X6_readSum rec v1 h) P) : ATk (KM k0 0 0 Qp) FN 0 0 M_X6_readSum 0 [some (aR 18), some (aI v1), none, none] [] h := by
  unfold X6_readSum at hh
  refine A_blk hM.1 2 (lv1 := [some (aR 18), some (aI v1), none, none]) (s1 := [aI v1, aR 18]) (h1 := h) rfl ?_
  refine A_callV hM rfl rfl (mem_GW 830 (by decide +kernel) rfl) mi_X6_readTerm (As := [aI v1]) (rest := []) (hrec 1 _ _ _ (OK_bind hh)) (Nat.lt_succ_self _) ⟨Nat.zero_le _, Nat.zero_le _⟩ rfl rfl (Nat.le_of_ble_eq_true rfl) (by decide) rfl (by decide) rfl (fun r F' h' hq1 => ?_)
  obtain ⟨rfl, rfl, hh⟩ := hq1
  obtain ⟨r1, rfl⟩ : ∃ z, z = h' := ⟨_, rfl⟩
  refine A_blk hM.1 2 (lv1 := [some (aR 18), some (aI v1), some (aI 0), none]) (s1 := []) (h1 := r1) rfl ?_
  refine iter_ok (s := (0, r1)) (Gp := fun z => ATk (KM k0 0 0 Qp) FN 0 0 M_X6_readSum 5 [some (aR 18), some (aI v1), some (aI z.1), none] [] z.2) (E := fun z => ATk (KM k0 0 0 Qp) FN 0 0 M_X6_readSum 31 [none, none, none, none] [] z) (fun z P1 g1 g2 g3 => c_X6_readSum_l5 hM rec v1 z hrec hd g2 g3 g1) (OK_bind hh) (fun x6 hh => ?_)
  exact A_retv hM.1 rfl rfl rfl (hq x6 hh)

set_option maxRecDepth 20000 in
set_option maxHeartbeats 4000000 in
theorem ct_X6_readSum {d : Nat} {G : Gx} (rec : Nat → Int → Hp → Option Hp) (v1 : Int) (h : Hp)  (hrec : ∀ (tag : Nat) (v : Int) (h : Hp) (P : Hp → Prop), OK (rec tag v h) P → RC41 G tag d v h P) (hd : 11 ≤ d) {P : Hp → Prop} (hh : OK (X6_readSum rec v1 h) P) : CT G yX6_readSum M_X6_readSum (d + 1) 0 0 FN h [aR 18, aI v1] (fun r F' h' => F' = FN ∧ r = none ∧ P h') :=
  CT.of (by decide +kernel) rfl (Nat.le_of_ble_eq_true rfl) k_X6_readSum fun k0 _ _ hM => c_X6_readSum hM rec v1 h hrec hd (fun z hz => ⟨rfl, rfl, hz⟩) hh
theorem ct_Rec41 {G : Gx} : ∀ (n tag : Nat) (v : Int) (h : Hp) (P : Hp → Prop), OK (Rec41 n tag v h) P → RC41 G tag (n + 11) v h P
  | 0, _, _, _, _, hh => absurd hh (by simp [Rec41, OK])
  | n + 1, tag, v, h, P, hh => by
    have e : n + 1 + 11 = n + 11 + 1 := by omega
    rw [e]
    match tag, hh with
    | 0, hh => exact ct_X6_readFactor (d := n + 11) (Rec41 n) v h (ct_Rec41 n) (by omega) hh
    | 1, hh => exact ct_X6_readTerm (d := n + 11) (Rec41 n) v h (ct_Rec41 n) (by omega) hh
    | _ + 2, hh => exact ct_X6_readSum (d := n + 11) (Rec41 n) v h (ct_Rec41 n) (by omega) hh

theorem mi_X10_endValue : MIv yX10_endValue M_X10_endValue 1 := ⟨⟨(mem_GW 862 (by decide +kernel) rfl), (mem_GW 127 (by decide +kernel) rfl), by decide +kernel, by decide +kernel, by decide +kernel, by decide⟩, (mem_GW 860 (by decide +kernel) rfl), (mem_GW 861 (by decide +kernel) rfl)⟩
set_option maxRecDepth 20000 in
set_option maxHeartbeats 4000000 in
theorem c_X10_endValue {k0 : K0} {G : Gx} {Qp : Option AV → Fx → Hp → Prop} (hM : MB (KM k0 0 0 Qp) G M_X10_endValue 2) (t : Nat) (v1 : Int) (h : Hp)  (ht : t ∈ txL) {P : Hp → Prop} (hq : ∀ z : Hp, P z → Qp none FN z) (hh : OK (X10_endValue t v1 h) P) : ATk (KM k0 0 0 Qp) FN 0 0 M_X10_endValue 0 [some (aR t), some (aI v1)] [] h := by
  unfold X10_endValue at hh
  refine A_blk hM.1 1 (lv1 := [some (aR t), some (aI v1)]) (s1 := [aR t]) (h1 := h) rfl ?_
  refine A_gr hM.1 rfl rfl rfl (tx_k0 ht) (tx_l0 ht) (Nat.lt_trans (tx_l1 ht) NF_lt) (tx_r2 ht) rfl ?_
  refine A_blk hM.1 1 (lv1 := [some (aR t), some (aI v1)]) (s1 := [aR t, aR (t + 1)]) (h1 := h) rfl ?_
  refine A_gi hM.1 rfl rfl rfl (tx_k0 ht) (tx_l0 ht) rfl ?_
  refine A_blk hM.1 1 (lv1 := [some (aR t), some (aI v1)]) (s1 := [aI v1, aI (h t 0), aR (t + 1)]) (h1 := h) rfl ?_
  refine A_callSN (host := "QuotedBooks") hM rfl rfl (mem_NW 855 (by decide +kernel) rfl) mi_X11_put ms_X11_put (As := [aR (t + 1), aI (h t 0), aI v1]) (rest := []) (ct_X11_put (t + 1) 12 (h t 0) v1 h (tx_k1 ht) (tx_n1 ht) (OK_bind hh)) (by decide) ⟨Nat.zero_le _, Nat.zero_le _⟩ rfl rfl (Nat.le_of_ble_eq_true rfl) (fun r F' h' hq1 => ?_)
  obtain ⟨rfl, rfl, hh⟩ := hq1
  obtain ⟨r1, rfl⟩ : ∃ z, z = h' := ⟨_, rfl⟩
  refine A_blk hM.1 1 (lv1 := [some (aR t), some (aI v1)]) (s1 := [aR t]) (h1 := r1) rfl ?_
  refine A_gr hM.1 rfl rfl rfl (tx_k0 ht) (tx_l0 ht) (Nat.lt_trans (tx_l2 ht) NF_lt) (tx_r3 ht) rfl ?_
  refine A_blk hM.1 1 (lv1 := [some (aR t), some (aI v1)]) (s1 := [aR t, aR (t + 2)]) (h1 := r1) rfl ?_
  refine A_gi hM.1 rfl rfl rfl (tx_k0 ht) (tx_l0 ht) rfl ?_
  refine A_blk hM.1 1 (lv1 := [some (aR t), some (aI v1)]) (s1 := [aR t, aI (r1 t 0), aR (t + 2)]) (h1 := r1) rfl ?_
  refine A_gi hM.1 rfl rfl rfl (tx_k0 ht) (tx_l0 ht) rfl ?_
  refine A_callSN (host := "QuotedBooks") hM rfl rfl (mem_NW 855 (by decide +kernel) rfl) mi_X11_put ms_X11_put (As := [aR (t + 2), aI (r1 t 0), aI (r1 t 1)]) (rest := []) (ct_X11_put (t + 2) 12 (r1 t 0) (r1 t 1) r1 (tx_k2 ht) (tx_n2 ht) (OK_bind hh)) (by decide) ⟨Nat.zero_le _, Nat.zero_le _⟩ rfl rfl (Nat.le_of_ble_eq_true rfl) (fun r F' h' hq1 => ?_)
  obtain ⟨rfl, rfl, hh⟩ := hq1
  obtain ⟨r2, rfl⟩ : ∃ z, z = h' := ⟨_, rfl⟩
  exact A_retv hM.1 rfl rfl rfl (hq r2 hh)

set_option maxRecDepth 20000 in
set_option maxHeartbeats 4000000 in
theorem ct_X10_endValue {G : Gx} (t : Nat) (v1 : Int) (h : Hp)  (ht : t ∈ txL) {P : Hp → Prop} (hh : OK (X10_endValue t v1 h) P) : CT G yX10_endValue M_X10_endValue 2 0 0 FN h [aR t, aI v1] (fun r F' h' => F' = FN ∧ r = none ∧ P h') :=
  CT.of (by decide +kernel) rfl (Nat.le_of_ble_eq_true rfl) k_X10_endValue fun k0 _ _ hM => c_X10_endValue hM t v1 h ht (fun z hz => ⟨rfl, rfl, hz⟩) hh

theorem mi_X6_readComparison : MIv yX6_readComparison M_X6_readComparison 1 := ⟨⟨(mem_GW 878 (by decide +kernel) rfl), (mem_GW 126 (by decide +kernel) rfl), by decide +kernel, by decide +kernel, by decide +kernel, by decide⟩, (mem_GW 877 (by decide +kernel) rfl), (mem_GW 17 (by decide +kernel) rfl)⟩
set_option maxRecDepth 20000 in
set_option maxHeartbeats 4000000 in
theorem c_X6_readComparison {k0 : K0} {G : Gx} {Qp : Option AV → Fx → Hp → Prop} (hM : MB (KM k0 0 0 Qp) G M_X6_readComparison 72) (v1 : Int) (h : Hp)   {P : Hp → Prop} (hq : ∀ z : Hp, P z → Qp none FN z) (hh : OK (X6_readComparison v1 h) P) : ATk (KM k0 0 0 Qp) FN 0 0 M_X6_readComparison 0 [some (aR 18), some (aI v1), none] [] h := by
  unfold X6_readComparison at hh
  refine A_blk hM.1 2 (lv1 := [some (aR 18), some (aI v1), none]) (s1 := [aI v1, aR 18]) (h1 := h) rfl ?_
  refine A_callV hM rfl rfl (mem_GW 826 (by decide +kernel) rfl) mi_X6_readSum (As := [aI v1]) (rest := []) (ct_Rec41 FR 2 _ _ _ (OK_bind hh)) (by decide) ⟨Nat.zero_le _, Nat.zero_le _⟩ rfl rfl (Nat.le_of_ble_eq_true rfl) (by decide) rfl (by decide) rfl (fun r F' h' hq1 => ?_)
  obtain ⟨rfl, rfl, hh⟩ := hq1
  obtain ⟨r1, rfl⟩ : ∃ z, z = h' := ⟨_, rfl⟩
  refine A_blk hM.1 1 (lv1 := [some (aR 18), some (aI v1), none]) (s1 := [aR 18]) (h1 := r1) rfl ?_
  refine A_ldcs hM.1 rfl rfl (j := 4) (by decide) rfl rfl ?_
  refine A_callV hM rfl rfl (mem_GW 723 (by decide +kernel) rfl) mi_X6_nextIsOf (As := [aR 1004]) (rest := []) (ct_X6_nextIsOf 4 r1 (by decide) (OK_bind hh)) (by decide) ⟨Nat.zero_le _, Nat.zero_le _⟩ rfl rfl (Nat.le_of_ble_eq_true rfl) (by decide) rfl (by decide) rfl (fun r F' h' hq1 => ?_)
  obtain ⟨rfl, r2, rfl, e9, hh⟩ := hq1
  subst h'
  refine A_ifc hM.1 rfl rfl (fun hc => ?_) (fun hc => ?_)
  · replace hh := OK_t hh hc
    refine A_blk hM.1 1 (lv1 := [some (aR 18), some (aI v1), none]) (s1 := [aR 18]) (h1 := r1) rfl ?_
    refine A_callV hM rfl rfl (mem_GW 727 (by decide +kernel) rfl) mi_X6_next (As := []) (rest := []) (ct_X6_next r1 (OK_bind hh)) (by decide) ⟨Nat.zero_le _, Nat.zero_le _⟩ rfl rfl (Nat.le_of_ble_eq_true rfl) (by decide) rfl (by decide) rfl (fun r F' h' hq1 => ?_)
    obtain ⟨rfl, r3, rfl, e9, hh⟩ := hq1
    subst h'
    refine A_blk hM.1 9 (lv1 := [some (aR 18), some (aI v1), some (aI r3)]) (s1 := [aI v1, aR 18]) (h1 := setH r1 18 3 ((r1 18 3) + 1)) rfl ?_
    refine A_callV hM rfl rfl (mem_GW 826 (by decide +kernel) rfl) mi_X6_readSum (As := [aI v1]) (rest := []) (ct_Rec41 FR 2 _ _ _ (OK_bind hh)) (by decide) ⟨Nat.zero_le _, Nat.zero_le _⟩ rfl rfl (Nat.le_of_ble_eq_true rfl) (by decide) rfl (by decide) rfl (fun r F' h' hq1 => ?_)
    obtain ⟨rfl, rfl, hh⟩ := hq1
    obtain ⟨r4, rfl⟩ : ∃ z, z = h' := ⟨_, rfl⟩
    refine A_blk hM.1 4 (lv1 := [some (aR 18), some (aI v1), some (aI r3)]) (s1 := [aI 0, aI r3, aR 19]) (h1 := r4) rfl ?_
    refine A_callV hM rfl rfl (mem_GW 851 (by decide +kernel) rfl) mi_X10_add (As := [aI r3, aI 0]) (rest := []) (ct_X10_add 19 r3 0 r4 (by decide) (OK_bind hh)) (by decide) ⟨Nat.zero_le _, Nat.zero_le _⟩ rfl rfl (Nat.le_of_ble_eq_true rfl) (by decide) rfl (by decide) rfl (fun r F' h' hq1 => ?_)
    obtain ⟨rfl, rfl, hh⟩ := hq1
    obtain ⟨r5, rfl⟩ : ∃ z, z = h' := ⟨_, rfl⟩
    exact A_retv hM.1 rfl rfl rfl (hq r5 hh)
  · replace hh := OK_f hh hc
    refine A_blk hM.1 2 (lv1 := [some (aR 18), some (aI v1), none]) (s1 := [aI 1, aR 18]) (h1 := r1) rfl ?_
    refine A_callV hM rfl rfl (mem_GW 818 (by decide +kernel) rfl) mi_X6_blame (As := [aI 1]) (rest := []) (ct_X6_blame 1 r1 (OK_bind hh)) (by decide) ⟨Nat.zero_le _, Nat.zero_le _⟩ rfl rfl (Nat.le_of_ble_eq_true rfl) (by decide) rfl (by decide) rfl (fun r F' h' hq1 => ?_)
    obtain ⟨rfl, rfl, hh⟩ := hq1
    obtain ⟨r6, rfl⟩ : ∃ z, z = h' := ⟨_, rfl⟩
    exact A_retv hM.1 rfl rfl rfl (hq r6 hh)

set_option maxRecDepth 20000 in
set_option maxHeartbeats 4000000 in
theorem ct_X6_readComparison {G : Gx} (v1 : Int) (h : Hp)   {P : Hp → Prop} (hh : OK (X6_readComparison v1 h) P) : CT G yX6_readComparison M_X6_readComparison 72 0 0 FN h [aR 18, aI v1] (fun r F' h' => F' = FN ∧ r = none ∧ P h') :=
  CT.of (by decide +kernel) rfl (Nat.le_of_ble_eq_true rfl) k_X6_readComparison fun k0 _ _ hM => c_X6_readComparison hM v1 h (fun z hz => ⟨rfl, rfl, hz⟩) hh

theorem mi_X10_size : MIv yX10_size M_X10_size 0 := ⟨⟨(mem_GW 884 (by decide +kernel) rfl), (mem_GW 127 (by decide +kernel) rfl), by decide +kernel, by decide +kernel, by decide +kernel, by decide⟩, (mem_GW 882 (by decide +kernel) rfl), (mem_GW 883 (by decide +kernel) rfl)⟩
set_option maxRecDepth 20000 in
set_option maxHeartbeats 4000000 in
theorem c_X10_size {k0 : K0} {G : Gx} {Qp : Option AV → Fx → Hp → Prop} (hM : MB (KM k0 0 0 Qp) G M_X10_size 1) (t : Nat) (h : Hp)  (ht : t ∈ txL) {P : Int → Prop} (hq : ∀ z : Int, P z → Qp (some (aI z)) FN h) (hh : OK (X10_size t h) P) : ATk (KM k0 0 0 Qp) FN 0 0 M_X10_size 0 [some (aR t)] [] h := by
  unfold X10_size at hh
  refine A_blk hM.1 1 (lv1 := [some (aR t)]) (s1 := [aR t]) (h1 := h) rfl ?_
  refine A_gi hM.1 rfl rfl rfl (tx_k0 ht) (tx_l0 ht) rfl ?_
  exact A_reti hM.1 rfl rfl rfl (hq (h t 1) hh)

set_option maxRecDepth 20000 in
set_option maxHeartbeats 4000000 in
theorem ct_X10_size {G : Gx} (t : Nat) (h : Hp)  (ht : t ∈ txL) {P : Int → Prop} (hh : OK (X10_size t h) P) : CT G yX10_size M_X10_size 1 0 0 FN h [aR t] (fun r F' h' => F' = FN ∧ ∃ z, r = some (aI z) ∧ h' = h ∧ P z) :=
  CT.of (by decide +kernel) rfl (Nat.le_of_ble_eq_true rfl) k_X10_size fun k0 _ _ hM => c_X10_size hM t h ht (fun z hz => ⟨rfl, z, rfl, rfl, hz⟩) hh

theorem mi_X10_aim : MIv yX10_aim M_X10_aim 1 := ⟨⟨(mem_GW 888 (by decide +kernel) rfl), (mem_GW 127 (by decide +kernel) rfl), by decide +kernel, by decide +kernel, by decide +kernel, by decide⟩, (mem_GW 886 (by decide +kernel) rfl), (mem_GW 887 (by decide +kernel) rfl)⟩
set_option maxRecDepth 20000 in
set_option maxHeartbeats 4000000 in
theorem c_X10_aim {k0 : K0} {G : Gx} {Qp : Option AV → Fx → Hp → Prop} (hM : MB (KM k0 0 0 Qp) G M_X10_aim 2) (t : Nat) (v1 : Int) (h : Hp)  (ht : t ∈ txL) {P : Hp → Prop} (hq : ∀ z : Hp, P z → Qp none FN z) (hh : OK (X10_aim t v1 h) P) : ATk (KM k0 0 0 Qp) FN 0 0 M_X10_aim 0 [some (aR t), some (aI v1)] [] h := by
  unfold X10_aim at hh
  refine A_blk hM.1 1 (lv1 := [some (aR t), some (aI v1)]) (s1 := [aR t]) (h1 := h) rfl ?_
  refine A_gr hM.1 rfl rfl rfl (tx_k0 ht) (tx_l0 ht) (Nat.lt_trans (tx_l5 ht) NF_lt) (tx_r6 ht) rfl ?_
  refine A_blk hM.1 2 (lv1 := [some (aR t), some (aI v1)]) (s1 := [aR t, aI v1, aR (t + 5)]) (h1 := h) rfl ?_
  refine A_gi hM.1 rfl rfl rfl (tx_k0 ht) (tx_l0 ht) rfl ?_
  refine A_callSN (host := "QuotedBooks") hM rfl rfl (mem_NW 855 (by decide +kernel) rfl) mi_X11_put ms_X11_put (As := [aR (t + 5), aI v1, aI (h t 1)]) (rest := []) (ct_X11_put (t + 5) 160 v1 (h t 1) h (tx_k5 ht) (tx_n5 ht) (OK_bind hh)) (by decide) ⟨Nat.zero_le _, Nat.zero_le _⟩ rfl rfl (Nat.le_of_ble_eq_true rfl) (fun r F' h' hq1 => ?_)
  obtain ⟨rfl, rfl, hh⟩ := hq1
  obtain ⟨r1, rfl⟩ : ∃ z, z = h' := ⟨_, rfl⟩
  exact A_retv hM.1 rfl rfl rfl (hq r1 hh)

set_option maxRecDepth 20000 in
set_option maxHeartbeats 4000000 in
theorem ct_X10_aim {G : Gx} (t : Nat) (v1 : Int) (h : Hp)  (ht : t ∈ txL) {P : Hp → Prop} (hh : OK (X10_aim t v1 h) P) : CT G yX10_aim M_X10_aim 2 0 0 FN h [aR t, aI v1] (fun r F' h' => F' = FN ∧ r = none ∧ P h') :=
  CT.of (by decide +kernel) rfl (Nat.le_of_ble_eq_true rfl) k_X10_aim fun k0 _ _ hM => c_X10_aim hM t v1 h ht (fun z hz => ⟨rfl, rfl, hz⟩) hh

theorem mi_X6_readPiece : MIv yX6_readPiece M_X6_readPiece 1 := ⟨⟨(mem_GW 874 (by decide +kernel) rfl), (mem_GW 126 (by decide +kernel) rfl), by decide +kernel, by decide +kernel, by decide +kernel, by decide⟩, (mem_GW 873 (by decide +kernel) rfl), (mem_GW 16 (by decide +kernel) rfl)⟩
theorem mi_X6_readPart : MIv yX6_readPart M_X6_readPart 1 := ⟨⟨(mem_GW 870 (by decide +kernel) rfl), (mem_GW 126 (by decide +kernel) rfl), by decide +kernel, by decide +kernel, by decide +kernel, by decide⟩, (mem_GW 869 (by decide +kernel) rfl), (mem_GW 15 (by decide +kernel) rfl)⟩
theorem mi_X6_readChoice : MIv yX6_readChoice M_X6_readChoice 1 := ⟨⟨(mem_GW 866 (by decide +kernel) rfl), (mem_GW 126 (by decide +kernel) rfl), by decide +kernel, by decide +kernel, by decide +kernel, by decide⟩, (mem_GW 865 (by decide +kernel) rfl), (mem_GW 14 (by decide +kernel) rfl)⟩
def RC46 (G : Gx) (tag d : Nat) (v : Int) (h : Hp) (P : Hp → Prop) : Prop := match tag with
  | 0 => CT G yX6_readPiece M_X6_readPiece d 0 0 FN h [aR 18, aI v] (fun r F' h' => F' = FN ∧ r = none ∧ P h')
  | 1 => CT G yX6_readPart M_X6_readPart d 0 0 FN h [aR 18, aI v] (fun r F' h' => F' = FN ∧ r = none ∧ P h')
  | _ => CT G yX6_readChoice M_X6_readChoice d 0 0 FN h [aR 18, aI v] (fun r F' h' => F' = FN ∧ r = none ∧ P h')
set_option maxRecDepth 20000 in
set_option maxHeartbeats 4000000 in
theorem c_X6_readPiece {d : Nat} {k0 : K0} {G : Gx} {Qp : Option AV → Fx → Hp → Prop} (hM : MB (KM k0 0 0 Qp) G M_X6_readPiece (d + 1)) (rec : Nat → Int → Hp → Option Hp) (v1 : Int) (h : Hp)  (hrec : ∀ (tag : Nat) (v : Int) (h : Hp) (P : Hp → Prop), OK (rec tag v h) P → RC46 G tag d v h P) (hd : 73 ≤ d) {P : Hp → Prop} (hq : ∀ z : Hp, P z → Qp none FN z) (hh : OK (X6_readPiece rec v1 h) P) : ATk (KM k0 0 0 Qp) FN 0 0 M_X6_readPiece 0 [some (aR 18), some (aI v1)] [] h := by
  unfold X6_readPiece at hh
  refine A_blk hM.1 2 (lv1 := [some (aR 18), some (aI v1)]) (s1 := [aI (h 18 4)]) (h1 := h) rfl ?_
  refine A_ifc hM.1 rfl rfl (fun hc => ?_) (fun hc => ?_)
  · replace hh := OK_t hh hc
    refine A_blk hM.1 1 (lv1 := [some (aR 18), some (aI v1)]) (s1 := [aR 18]) (h1 := h) rfl ?_
    refine A_callV hM rfl rfl (mem_GW 727 (by decide +kernel) rfl) mi_X6_next (As := []) (rest := []) (ct_X6_next h (OK_bind hh)) (by omega) ⟨Nat.zero_le _, Nat.zero_le _⟩ rfl rfl (Nat.le_of_ble_eq_true rfl) (by decide) rfl (by decide) rfl (fun r F' h' hq1 => ?_)
    obtain ⟨rfl, r1, rfl, e9, hh⟩ := hq1
    subst h'
    refine A_blk hM.1 1 (lv1 := [some (aR 18), some (aI v1)]) (s1 := [aI 33, aI r1]) (h1 := h) rfl ?_
    refine A_icmp hM.1 rfl rfl (fun hc => ?_) (fun hc => ?_)
    · replace hh := OK_t hh hc
      refine A_blk hM.1 1 (lv1 := [some (aR 18), some (aI v1)]) (s1 := [aR 18]) (h1 := h) rfl ?_
      refine A_callV hM rfl rfl (mem_GW 727 (by decide +kernel) rfl) mi_X6_next (As := []) (rest := []) (ct_X6_next h (OK_bind hh)) (by omega) ⟨Nat.zero_le _, Nat.zero_le _⟩ rfl rfl (Nat.le_of_ble_eq_true rfl) (by decide) rfl (by decide) rfl (fun r F' h' hq1 => ?_)
      obtain ⟨rfl, r2, rfl, e9, hh⟩ := hq1
      subst h'
      refine A_blk hM.1 1 (lv1 := [some (aR 18), some (aI v1)]) (s1 := [aI 40, aI r2]) (h1 := h) rfl ?_
      refine A_icmp hM.1 rfl rfl (fun hc => ?_) (fun hc => ?_)
      · replace hh := OK_t hh hc
        refine A_blk hM.1 2 (lv1 := [some (aR 18), some (aI v1)]) (s1 := [aI v1, aR 18]) (h1 := h) rfl ?_
        refine A_callV hM rfl rfl (mem_GW 875 (by decide +kernel) rfl) mi_X6_readComparison (As := [aI v1]) (rest := []) (ct_X6_readComparison v1 h (OK_bind hh)) (by omega) ⟨Nat.zero_le _, Nat.zero_le _⟩ rfl rfl (Nat.le_of_ble_eq_true rfl) (by decide) rfl (by decide) rfl (fun r F' h' hq1 => ?_)
        obtain ⟨rfl, rfl, hh⟩ := hq1
        obtain ⟨r3, rfl⟩ : ∃ z, z = h' := ⟨_, rfl⟩
        exact A_retv hM.1 rfl rfl rfl (hq r3 hh)
      · replace hh := OK_f hh hc
        refine A_blk hM.1 4 (lv1 := [some (aR 18), some (aI v1)]) (s1 := [aI (v1 + 1), aR 18]) (h1 := h) rfl ?_
        refine A_callV hM rfl rfl (mem_GW 838 (by decide +kernel) rfl) mi_X6_opens (As := [aI (v1 + 1)]) (rest := []) (ct_X6_opens (v1 + 1) h (OK_bind hh)) (by omega) ⟨Nat.zero_le _, Nat.zero_le _⟩ rfl rfl (Nat.le_of_ble_eq_true rfl) (by decide) rfl (by decide) rfl (fun r F' h' hq1 => ?_)
        obtain ⟨rfl, r4, rfl, e9, hh⟩ := hq1
        subst h'
        refine A_ifc hM.1 rfl rfl (fun hc => ?_) (fun hc => ?_)
        · replace hh := OK_t hh hc
          exact A_retv hM.1 rfl rfl rfl (hq r4.2 hh)
        · replace hh := OK_f hh hc
          refine A_blk hM.1 4 (lv1 := [some (aR 18), some (aI v1)]) (s1 := [aI (v1 + 1), aR 18]) (h1 := r4.2) rfl ?_
          refine A_callV hM rfl rfl (mem_GW 863 (by decide +kernel) rfl) mi_X6_readChoice (As := [aI (v1 + 1)]) (rest := []) (hrec 2 _ _ _ (OK_bind hh)) (Nat.lt_succ_self _) ⟨Nat.zero_le _, Nat.zero_le _⟩ rfl rfl (Nat.le_of_ble_eq_true rfl) (by decide) rfl (by decide) rfl (fun r F' h' hq1 => ?_)
          obtain ⟨rfl, rfl, hh⟩ := hq1
          obtain ⟨r5, rfl⟩ : ∃ z, z = h' := ⟨_, rfl⟩
          refine A_blk hM.1 2 (lv1 := [some (aR 18), some (aI v1)]) (s1 := [aI 41, aR 18]) (h1 := r5) rfl ?_
          refine A_callV hM rfl rfl (mem_GW 842 (by decide +kernel) rfl) mi_X6_expect (As := [aI 41]) (rest := []) (ct_X6_expect 41 r5 (OK_bind hh)) (by omega) ⟨Nat.zero_le _, Nat.zero_le _⟩ rfl rfl (Nat.le_of_ble_eq_true rfl) (by decide) rfl (by decide) rfl (fun r F' h' hq1 => ?_)
          obtain ⟨rfl, rfl, hh⟩ := hq1
          obtain ⟨r6, rfl⟩ : ∃ z, z = h' := ⟨_, rfl⟩
          refine A_go hM.1 rfl rfl ?_
          exact A_retv hM.1 rfl rfl rfl (hq r6 hh)
    · replace hh := OK_f hh hc
      refine A_blk hM.1 4 (lv1 := [some (aR 18), some (aI v1)]) (s1 := [aI (v1 + 1), aR 18]) (h1 := h) rfl ?_
      refine A_callV hM rfl rfl (mem_GW 838 (by decide +kernel) rfl) mi_X6_opens (As := [aI (v1 + 1)]) (rest := []) (ct_X6_opens (v1 + 1) h (OK_bind hh)) (by omega) ⟨Nat.zero_le _, Nat.zero_le _⟩ rfl rfl (Nat.le_of_ble_eq_true rfl) (by decide) rfl (by decide) rfl (fun r F' h' hq1 => ?_)
      obtain ⟨rfl, r7, rfl, e9, hh⟩ := hq1
      subst h'
      refine A_ifc hM.1 rfl rfl (fun hc => ?_) (fun hc => ?_)
      · replace hh := OK_t hh hc
        exact A_retv hM.1 rfl rfl rfl (hq r7.2 hh)
      · replace hh := OK_f hh hc
        refine A_blk hM.1 4 (lv1 := [some (aR 18), some (aI v1)]) (s1 := [aI (v1 + 1), aR 18]) (h1 := r7.2) rfl ?_
        refine A_callV hM rfl rfl (mem_GW 871 (by decide +kernel) rfl) mi_X6_readPiece (As := [aI (v1 + 1)]) (rest := []) (hrec 0 _ _ _ (OK_bind hh)) (Nat.lt_succ_self _) ⟨Nat.zero_le _, Nat.zero_le _⟩ rfl rfl (Nat.le_of_ble_eq_true rfl) (by decide) rfl (by decide) rfl (fun r F' h' hq1 => ?_)
        obtain ⟨rfl, rfl, hh⟩ := hq1
        obtain ⟨r8, rfl⟩ : ∃ z, z = h' := ⟨_, rfl⟩
        refine A_blk hM.1 4 (lv1 := [some (aR 18), some (aI v1)]) (s1 := [aI 0, aI 33, aR 19]) (h1 := r8) rfl ?_
        refine A_callV hM rfl rfl (mem_GW 851 (by decide +kernel) rfl) mi_X10_add (As := [aI 33, aI 0]) (rest := []) (ct_X10_add 19 33 0 r8 (by decide) (OK_bind hh)) (by omega) ⟨Nat.zero_le _, Nat.zero_le _⟩ rfl rfl (Nat.le_of_ble_eq_true rfl) (by decide) rfl (by decide) rfl (fun r F' h' hq1 => ?_)
        obtain ⟨rfl, rfl, hh⟩ := hq1
        obtain ⟨r9, rfl⟩ : ∃ z, z = h' := ⟨_, rfl⟩
        refine A_go hM.1 rfl rfl ?_
        exact A_retv hM.1 rfl rfl rfl (hq r9 hh)
  · replace hh := OK_f hh hc
    exact A_retv hM.1 rfl rfl rfl (hq h hh)

set_option maxRecDepth 20000 in
set_option maxHeartbeats 4000000 in
theorem ct_X6_readPiece {d : Nat} {G : Gx} (rec : Nat → Int → Hp → Option Hp) (v1 : Int) (h : Hp)  (hrec : ∀ (tag : Nat) (v : Int) (h : Hp) (P : Hp → Prop), OK (rec tag v h) P → RC46 G tag d v h P) (hd : 73 ≤ d) {P : Hp → Prop} (hh : OK (X6_readPiece rec v1 h) P) : CT G yX6_readPiece M_X6_readPiece (d + 1) 0 0 FN h [aR 18, aI v1] (fun r F' h' => F' = FN ∧ r = none ∧ P h') :=
  CT.of (by decide +kernel) rfl (Nat.le_of_ble_eq_true rfl) k_X6_readPiece fun k0 _ _ hM => c_X6_readPiece hM rec v1 h hrec hd (fun z hz => ⟨rfl, rfl, hz⟩) hh
set_option maxRecDepth 20000 in
set_option maxHeartbeats 4000000 in
theorem c_X6_readPart_l5 {d : Nat} {k0 : K0} {G : Gx} {Qp : Option AV → Fx → Hp → Prop} (hM : MB (KM k0 0 0 Qp) G M_X6_readPart (d + 1)) (rec : Nat → Int → Hp → Option Hp) (v1 : Int) (x : Int × Hp)  (hrec : ∀ (tag : Nat) (v : Int) (h : Hp) (P : Hp → Prop), OK (rec tag v h) P → RC46 G tag d v h P) (hd : 73 ≤ d) {P : ((Int × Hp) ⊕ (Hp)) → Prop} (hin : ∀ y : Int × Hp, P (.inl y) → ATk (KM k0 0 0 Qp) FN 0 0 M_X6_readPart 5 [some (aR 18), some (aI v1), some (aI y.1), none] [] y.2) (hout0 : ∀ y : Hp, P (.inr y) → ATk (KM k0 0 0 Qp) FN 0 0 M_X6_readPart 36 [none, none, none, none] [] y) (hh : OK (X6_readPart_l5 rec v1 x) P) : ATk (KM k0 0 0 Qp) FN 0 0 M_X6_readPart 5 [some (aR 18), some (aI v1), some (aI x.1), none] [] x.2 := by
  unfold X6_readPart_l5 at hh
  refine A_blk hM.1 2 (lv1 := [some (aR 18), some (aI v1), some (aI x.1), none]) (s1 := [aI 160, aI x.1]) (h1 := x.2) rfl ?_
  refine A_icmp hM.1 rfl rfl (fun hc => ?_) (fun hc => ?_)
  · replace hh := OK_t hh hc
    refine A_mask [false, false, false, true] (lv1 := [none, none, none, none]) rfl ?_
    exact hout0 x.2 hh
  · replace hh := OK_f hh hc
    refine A_blk hM.1 1 (lv1 := [some (aR 18), some (aI v1), some (aI x.1), none]) (s1 := [aR 18]) (h1 := x.2) rfl ?_
    refine A_ldcs hM.1 rfl rfl (j := 5) (by decide) rfl rfl ?_
    refine A_callV hM rfl rfl (mem_GW 723 (by decide +kernel) rfl) mi_X6_nextIsOf (As := [aR 1005]) (rest := []) (ct_X6_nextIsOf 5 x.2 (by decide) (OK_bind hh)) (by omega) ⟨Nat.zero_le _, Nat.zero_le _⟩ rfl rfl (Nat.le_of_ble_eq_true rfl) (by decide) rfl (by decide) rfl (fun r F' h' hq1 => ?_)
    obtain ⟨rfl, r2, rfl, e9, hh⟩ := hq1
    subst h'
    refine A_ifc hM.1 rfl rfl (fun hc => ?_) (fun hc => ?_)
    · replace hh := OK_t hh hc
      refine A_mask [false, false, false, true] (lv1 := [none, none, none, none]) rfl ?_
      exact hout0 x.2 hh
    · replace hh := OK_f hh hc
      refine A_blk hM.1 2 (lv1 := [some (aR 18), some (aI v1), some (aI x.1), none]) (s1 := [aR 19]) (h1 := x.2) rfl ?_
      refine A_callV hM rfl rfl (mem_GW 881 (by decide +kernel) rfl) mi_X10_size (As := []) (rest := []) (ct_X10_size 19 x.2 (by decide) (OK_bind hh)) (by omega) ⟨Nat.zero_le _, Nat.zero_le _⟩ rfl rfl (Nat.le_of_ble_eq_true rfl) (by decide) rfl (by decide) rfl (fun r F' h' hq1 => ?_)
      obtain ⟨rfl, r3, rfl, e9, hh⟩ := hq1
      subst h'
      refine A_blk hM.1 5 (lv1 := [some (aR 18), some (aI v1), some (aI x.1), some (aI r3)]) (s1 := [aI 0, aI 38, aR 19]) (h1 := x.2) rfl ?_
      refine A_callV hM rfl rfl (mem_GW 851 (by decide +kernel) rfl) mi_X10_add (As := [aI 38, aI 0]) (rest := []) (ct_X10_add 19 38 0 x.2 (by decide) (OK_bind hh)) (by omega) ⟨Nat.zero_le _, Nat.zero_le _⟩ rfl rfl (Nat.le_of_ble_eq_true rfl) (by decide) rfl (by decide) rfl (fun r F' h' hq1 => ?_)
      obtain ⟨rfl, rfl, hh⟩ := hq1
      obtain ⟨r4, rfl⟩ : ∃ z, z = h' := ⟨_, rfl⟩
      refine A_blk hM.1 8 (lv1 := [some (aR 18), some (aI v1), some (aI x.1), some (aI r3)]) (s1 := [aI v1, aR 18]) (h1 := setH r4 18 3 ((r4 18 3) + 1)) rfl ?_
      refine A_callV hM rfl rfl (mem_GW 871 (by decide +kernel) rfl) mi_X6_readPiece (As := [aI v1]) (rest := []) (hrec 0 _ _ _ (OK_bind hh)) (Nat.lt_succ_self _) ⟨Nat.zero_le _, Nat.zero_le _⟩ rfl rfl (Nat.le_of_ble_eq_true rfl) (by decide) rfl (by decide) rfl (fun r F' h' hq1 => ?_)
      obtain ⟨rfl, rfl, hh⟩ := hq1
      obtain ⟨r5, rfl⟩ : ∃ z, z = h' := ⟨_, rfl⟩
      refine A_blk hM.1 3 (lv1 := [some (aR 18), some (aI v1), some (aI x.1), some (aI r3)]) (s1 := [aI r3, aR 19]) (h1 := r5) rfl ?_
      refine A_callV hM rfl rfl (mem_GW 885 (by decide +kernel) rfl) mi_X10_aim (As := [aI r3]) (rest := []) (ct_X10_aim 19 r3 r5 (by decide) (OK_bind hh)) (by omega) ⟨Nat.zero_le _, Nat.zero_le _⟩ rfl rfl (Nat.le_of_ble_eq_true rfl) (by decide) rfl (by decide) rfl (fun r F' h' hq1 => ?_)
      obtain ⟨rfl, rfl, hh⟩ := hq1
      obtain ⟨r6, rfl⟩ : ∃ z, z = h' := ⟨_, rfl⟩
      refine A_blk hM.1 1 (lv1 := [some (aR 18), some (aI v1), some (aI (x.1 + 1)), some (aI r3)]) (s1 := []) (h1 := r6) rfl ?_
      refine A_go hM.1 rfl rfl ?_
      refine A_mask [true, true, true, false] (lv1 := [some (aR 18), some (aI v1), some (aI (x.1 + 1)), none]) rfl ?_
      exact hin (x.1 + 1, r6) hh

set_option maxRecDepth 20000 in
set_option maxHeartbeats 4000000 in
theorem c_X6_readPart {d : Nat} {k0 : K0} {G : Gx} {Qp : Option AV → Fx → Hp → Prop} (hM : MB (KM k0 0 0 Qp) G M_X6_readPart (d + 1)) (rec : Nat → Int → Hp → Option Hp) (v1 : Int) (h : Hp)  (hrec : ∀ (tag : Nat) (v : Int) (h : Hp) (P : Hp → Prop), OK (rec tag v h) P → RC46 G tag d v h P) (hd : 73 ≤ d) {P : Hp → Prop} (hq : ∀ z : Hp, P z → Qp none FN z) (hh : OK (X6_readPart rec v1 h) P) : ATk (KM k0 0 0 Qp) FN 0 0 M_X6_readPart 0 [some (aR 18), some (aI v1), none, none] [] h := by
  unfold X6_readPart at hh
  refine A_blk hM.1 2 (lv1 := [some (aR 18), some (aI v1), none, none]) (s1 := [aI v1, aR 18]) (h1 := h) rfl ?_
  refine A_callV hM rfl rfl (mem_GW 871 (by decide +kernel) rfl) mi_X6_readPiece (As := [aI v1]) (rest := []) (hrec 0 _ _ _ (OK_bind hh)) (Nat.lt_succ_self _) ⟨Nat.zero_le _, Nat.zero_le _⟩ rfl rfl (Nat.le_of_ble_eq_true rfl) (by decide) rfl (by decide) rfl (fun r F' h' hq1 => ?_)
  obtain ⟨rfl, rfl, hh⟩ := hq1
  obtain ⟨r1, rfl⟩ : ∃ z, z = h' := ⟨_, rfl⟩
  refine A_blk hM.1 2 (lv1 := [some (aR 18), some (aI v1), some (aI 0), none]) (s1 := []) (h1 := r1) rfl ?_
  refine iter_ok (s := (0, r1)) (Gp := fun z => ATk (KM k0 0 0 Qp) FN 0 0 M_X6_readPart 5 [some (aR 18), some (aI v1), some (aI z.1), none] [] z.2) (E := fun z => ATk (KM k0 0 0 Qp) FN 0 0 M_X6_readPart 36 [none, none, none, none] [] z) (fun z P1 g1 g2 g3 => c_X6_readPart_l5 hM rec v1 z hrec hd g2 g3 g1) (OK_bind hh) (fun x7 hh => ?_)
  exact A_retv hM.1 rfl rfl rfl (hq x7 hh)

set_option maxRecDepth 20000 in
set_option maxHeartbeats 4000000 in
theorem ct_X6_readPart {d : Nat} {G : Gx} (rec : Nat → Int → Hp → Option Hp) (v1 : Int) (h : Hp)  (hrec : ∀ (tag : Nat) (v : Int) (h : Hp) (P : Hp → Prop), OK (rec tag v h) P → RC46 G tag d v h P) (hd : 73 ≤ d) {P : Hp → Prop} (hh : OK (X6_readPart rec v1 h) P) : CT G yX6_readPart M_X6_readPart (d + 1) 0 0 FN h [aR 18, aI v1] (fun r F' h' => F' = FN ∧ r = none ∧ P h') :=
  CT.of (by decide +kernel) rfl (Nat.le_of_ble_eq_true rfl) k_X6_readPart fun k0 _ _ hM => c_X6_readPart hM rec v1 h hrec hd (fun z hz => ⟨rfl, rfl, hz⟩) hh
set_option maxRecDepth 20000 in
set_option maxHeartbeats 4000000 in
theorem c_X6_readChoice_l5 {d : Nat} {k0 : K0} {G : Gx} {Qp : Option AV → Fx → Hp → Prop} (hM : MB (KM k0 0 0 Qp) G M_X6_readChoice (d + 1)) (rec : Nat → Int → Hp → Option Hp) (v1 : Int) (x : Int × Hp)  (hrec : ∀ (tag : Nat) (v : Int) (h : Hp) (P : Hp → Prop), OK (rec tag v h) P → RC46 G tag d v h P) (hd : 73 ≤ d) {P : ((Int × Hp) ⊕ (Hp)) → Prop} (hin : ∀ y : Int × Hp, P (.inl y) → ATk (KM k0 0 0 Qp) FN 0 0 M_X6_readChoice 5 [some (aR 18), some (aI v1), some (aI y.1), none] [] y.2) (hout0 : ∀ y : Hp, P (.inr y) → ATk (KM k0 0 0 Qp) FN 0 0 M_X6_readChoice 36 [none, none, none, none] [] y) (hh : OK (X6_readChoice_l5 rec v1 x) P) : ATk (KM k0 0 0 Qp) FN 0 0 M_X6_readChoice 5 [some (aR 18), some (aI v1), some (aI x.1), none] [] x.2 := by
  unfold X6_readChoice_l5 at hh
  refine A_blk hM.1 2 (lv1 := [some (aR 18), some (aI v1), some (aI x.1), none]) (s1 := [aI 160, aI x.1]) (h1 := x.2) rfl ?_
  refine A_icmp hM.1 rfl rfl (fun hc => ?_) (fun hc => ?_)
  · replace hh := OK_t hh hc
    refine A_mask [false, false, false, true] (lv1 := [none, none, none, none]) rfl ?_
    exact hout0 x.2 hh
  · replace hh := OK_f hh hc
    refine A_blk hM.1 1 (lv1 := [some (aR 18), some (aI v1), some (aI x.1), none]) (s1 := [aR 18]) (h1 := x.2) rfl ?_
    refine A_ldcs hM.1 rfl rfl (j := 6) (by decide) rfl rfl ?_
    refine A_callV hM rfl rfl (mem_GW 723 (by decide +kernel) rfl) mi_X6_nextIsOf (As := [aR 1006]) (rest := []) (ct_X6_nextIsOf 6 x.2 (by decide) (OK_bind hh)) (by omega) ⟨Nat.zero_le _, Nat.zero_le _⟩ rfl rfl (Nat.le_of_ble_eq_true rfl) (by decide) rfl (by decide) rfl (fun r F' h' hq1 => ?_)
    obtain ⟨rfl, r2, rfl, e9, hh⟩ := hq1
    subst h'
    refine A_ifc hM.1 rfl rfl (fun hc => ?_) (fun hc => ?_)
    · replace hh := OK_t hh hc
      refine A_mask [false, false, false, true] (lv1 := [none, none, none, none]) rfl ?_
      exact hout0 x.2 hh
    · replace hh := OK_f hh hc
      refine A_blk hM.1 2 (lv1 := [some (aR 18), some (aI v1), some (aI x.1), none]) (s1 := [aR 19]) (h1 := x.2) rfl ?_
      refine A_callV hM rfl rfl (mem_GW 881 (by decide +kernel) rfl) mi_X10_size (As := []) (rest := []) (ct_X10_size 19 x.2 (by decide) (OK_bind hh)) (by omega) ⟨Nat.zero_le _, Nat.zero_le _⟩ rfl rfl (Nat.le_of_ble_eq_true rfl) (by decide) rfl (by decide) rfl (fun r F' h' hq1 => ?_)
      obtain ⟨rfl, r3, rfl, e9, hh⟩ := hq1
      subst h'
      refine A_blk hM.1 5 (lv1 := [some (aR 18), some (aI v1), some (aI x.1), some (aI r3)]) (s1 := [aI 0, aI 124, aR 19]) (h1 := x.2) rfl ?_
      refine A_callV hM rfl rfl (mem_GW 851 (by decide +kernel) rfl) mi_X10_add (As := [aI 124, aI 0]) (rest := []) (ct_X10_add 19 124 0 x.2 (by decide) (OK_bind hh)) (by omega) ⟨Nat.zero_le _, Nat.zero_le _⟩ rfl rfl (Nat.le_of_ble_eq_true rfl) (by decide) rfl (by decide) rfl (fun r F' h' hq1 => ?_)
      obtain ⟨rfl, rfl, hh⟩ := hq1
      obtain ⟨r4, rfl⟩ : ∃ z, z = h' := ⟨_, rfl⟩
      refine A_blk hM.1 8 (lv1 := [some (aR 18), some (aI v1), some (aI x.1), some (aI r3)]) (s1 := [aI v1, aR 18]) (h1 := setH r4 18 3 ((r4 18 3) + 1)) rfl ?_
      refine A_callV hM rfl rfl (mem_GW 867 (by decide +kernel) rfl) mi_X6_readPart (As := [aI v1]) (rest := []) (hrec 1 _ _ _ (OK_bind hh)) (Nat.lt_succ_self _) ⟨Nat.zero_le _, Nat.zero_le _⟩ rfl rfl (Nat.le_of_ble_eq_true rfl) (by decide) rfl (by decide) rfl (fun r F' h' hq1 => ?_)
      obtain ⟨rfl, rfl, hh⟩ := hq1
      obtain ⟨r5, rfl⟩ : ∃ z, z = h' := ⟨_, rfl⟩
      refine A_blk hM.1 3 (lv1 := [some (aR 18), some (aI v1), some (aI x.1), some (aI r3)]) (s1 := [aI r3, aR 19]) (h1 := r5) rfl ?_
      refine A_callV hM rfl rfl (mem_GW 885 (by decide +kernel) rfl) mi_X10_aim (As := [aI r3]) (rest := []) (ct_X10_aim 19 r3 r5 (by decide) (OK_bind hh)) (by omega) ⟨Nat.zero_le _, Nat.zero_le _⟩ rfl rfl (Nat.le_of_ble_eq_true rfl) (by decide) rfl (by decide) rfl (fun r F' h' hq1 => ?_)
      obtain ⟨rfl, rfl, hh⟩ := hq1
      obtain ⟨r6, rfl⟩ : ∃ z, z = h' := ⟨_, rfl⟩
      refine A_blk hM.1 1 (lv1 := [some (aR 18), some (aI v1), some (aI (x.1 + 1)), some (aI r3)]) (s1 := []) (h1 := r6) rfl ?_
      refine A_go hM.1 rfl rfl ?_
      refine A_mask [true, true, true, false] (lv1 := [some (aR 18), some (aI v1), some (aI (x.1 + 1)), none]) rfl ?_
      exact hin (x.1 + 1, r6) hh

set_option maxRecDepth 20000 in
set_option maxHeartbeats 4000000 in
theorem c_X6_readChoice {d : Nat} {k0 : K0} {G : Gx} {Qp : Option AV → Fx → Hp → Prop} (hM : MB (KM k0 0 0 Qp) G M_X6_readChoice (d + 1)) (rec : Nat → Int → Hp → Option Hp) (v1 : Int) (h : Hp)  (hrec : ∀ (tag : Nat) (v : Int) (h : Hp) (P : Hp → Prop), OK (rec tag v h) P → RC46 G tag d v h P) (hd : 73 ≤ d) {P : Hp → Prop} (hq : ∀ z : Hp, P z → Qp none FN z) (hh : OK (X6_readChoice rec v1 h) P) : ATk (KM k0 0 0 Qp) FN 0 0 M_X6_readChoice 0 [some (aR 18), some (aI v1), none, none] [] h := by
  unfold X6_readChoice at hh
  refine A_blk hM.1 2 (lv1 := [some (aR 18), some (aI v1), none, none]) (s1 := [aI v1, aR 18]) (h1 := h) rfl ?_
  refine A_callV hM rfl rfl (mem_GW 867 (by decide +kernel) rfl) mi_X6_readPart (As := [aI v1]) (rest := []) (hrec 1 _ _ _ (OK_bind hh)) (Nat.lt_succ_self _) ⟨Nat.zero_le _, Nat.zero_le _⟩ rfl rfl (Nat.le_of_ble_eq_true rfl) (by decide) rfl (by decide) rfl (fun r F' h' hq1 => ?_)
  obtain ⟨rfl, rfl, hh⟩ := hq1
  obtain ⟨r1, rfl⟩ : ∃ z, z = h' := ⟨_, rfl⟩
  refine A_blk hM.1 2 (lv1 := [some (aR 18), some (aI v1), some (aI 0), none]) (s1 := []) (h1 := r1) rfl ?_
  refine iter_ok (s := (0, r1)) (Gp := fun z => ATk (KM k0 0 0 Qp) FN 0 0 M_X6_readChoice 5 [some (aR 18), some (aI v1), some (aI z.1), none] [] z.2) (E := fun z => ATk (KM k0 0 0 Qp) FN 0 0 M_X6_readChoice 36 [none, none, none, none] [] z) (fun z P1 g1 g2 g3 => c_X6_readChoice_l5 hM rec v1 z hrec hd g2 g3 g1) (OK_bind hh) (fun x7 hh => ?_)
  exact A_retv hM.1 rfl rfl rfl (hq x7 hh)

set_option maxRecDepth 20000 in
set_option maxHeartbeats 4000000 in
theorem ct_X6_readChoice {d : Nat} {G : Gx} (rec : Nat → Int → Hp → Option Hp) (v1 : Int) (h : Hp)  (hrec : ∀ (tag : Nat) (v : Int) (h : Hp) (P : Hp → Prop), OK (rec tag v h) P → RC46 G tag d v h P) (hd : 73 ≤ d) {P : Hp → Prop} (hh : OK (X6_readChoice rec v1 h) P) : CT G yX6_readChoice M_X6_readChoice (d + 1) 0 0 FN h [aR 18, aI v1] (fun r F' h' => F' = FN ∧ r = none ∧ P h') :=
  CT.of (by decide +kernel) rfl (Nat.le_of_ble_eq_true rfl) k_X6_readChoice fun k0 _ _ hM => c_X6_readChoice hM rec v1 h hrec hd (fun z hz => ⟨rfl, rfl, hz⟩) hh
theorem ct_Rec46 {G : Gx} : ∀ (n tag : Nat) (v : Int) (h : Hp) (P : Hp → Prop), OK (Rec46 n tag v h) P → RC46 G tag (n + 73) v h P
  | 0, _, _, _, _, hh => absurd hh (by simp [Rec46, OK])
  | n + 1, tag, v, h, P, hh => by
    have e : n + 1 + 73 = n + 73 + 1 := by omega
    rw [e]
    match tag, hh with
    | 0, hh => exact ct_X6_readPiece (d := n + 73) (Rec46 n) v h (ct_Rec46 n) (by omega) hh
    | 1, hh => exact ct_X6_readPart (d := n + 73) (Rec46 n) v h (ct_Rec46 n) (by omega) hh
    | _ + 2, hh => exact ct_X6_readChoice (d := n + 73) (Rec46 n) v h (ct_Rec46 n) (by omega) hh

theorem mi_X10_endClause : MIv yX10_endClause M_X10_endClause 0 := ⟨⟨(mem_GW 893 (by decide +kernel) rfl), (mem_GW 127 (by decide +kernel) rfl), by decide +kernel, by decide +kernel, by decide +kernel, by decide⟩, (mem_GW 891 (by decide +kernel) rfl), (mem_GW 892 (by decide +kernel) rfl)⟩
set_option maxRecDepth 20000 in
set_option maxHeartbeats 4000000 in
theorem c_X10_endClause {k0 : K0} {G : Gx} {Qp : Option AV → Fx → Hp → Prop} (hM : MB (KM k0 0 0 Qp) G M_X10_endClause 2) (t : Nat) (h : Hp)  (ht : t ∈ txL) {P : Hp → Prop} (hq : ∀ z : Hp, P z → Qp none FN z) (hh : OK (X10_endClause t h) P) : ATk (KM k0 0 0 Qp) FN 0 0 M_X10_endClause 0 [some (aR t)] [] h := by
  unfold X10_endClause at hh
  refine A_blk hM.1 1 (lv1 := [some (aR t)]) (s1 := [aR t]) (h1 := h) rfl ?_
  refine A_gr hM.1 rfl rfl rfl (tx_k0 ht) (tx_l0 ht) (Nat.lt_trans (tx_l3 ht) NF_lt) (tx_r4 ht) rfl ?_
  refine A_blk hM.1 1 (lv1 := [some (aR t)]) (s1 := [aR t, aR (t + 3)]) (h1 := h) rfl ?_
  refine A_gi hM.1 rfl rfl rfl (tx_k0 ht) (tx_l0 ht) rfl ?_
  refine A_blk hM.1 1 (lv1 := [some (aR t)]) (s1 := [aR t, aI (h t 0), aR (t + 3)]) (h1 := h) rfl ?_
  refine A_gi hM.1 rfl rfl rfl (tx_k0 ht) (tx_l0 ht) rfl ?_
  refine A_callSN (host := "QuotedBooks") hM rfl rfl (mem_NW 855 (by decide +kernel) rfl) mi_X11_put ms_X11_put (As := [aR (t + 3), aI (h t 0), aI (h t 1)]) (rest := []) (ct_X11_put (t + 3) 12 (h t 0) (h t 1) h (tx_k3 ht) (tx_n3 ht) (OK_bind hh)) (by decide) ⟨Nat.zero_le _, Nat.zero_le _⟩ rfl rfl (Nat.le_of_ble_eq_true rfl) (fun r F' h' hq1 => ?_)
  obtain ⟨rfl, rfl, hh⟩ := hq1
  obtain ⟨r1, rfl⟩ : ∃ z, z = h' := ⟨_, rfl⟩
  refine A_blk hM.1 2 (lv1 := [some (aR t)]) (s1 := [aR t, aR t]) (h1 := r1) rfl ?_
  refine A_gi hM.1 rfl rfl rfl (tx_k0 ht) (tx_l0 ht) rfl ?_
  refine A_blk hM.1 2 (lv1 := [some (aR t)]) (s1 := [aI ((r1 t 0) + 1), aR t]) (h1 := r1) rfl ?_
  refine A_pi hM.1 rfl rfl rfl (tx_k0 ht) (tx_l0 ht) rfl rfl ?_
  exact A_retv hM.1 rfl rfl rfl (hq (setH r1 t 0 ((r1 t 0) + 1)) hh)

set_option maxRecDepth 20000 in
set_option maxHeartbeats 4000000 in
theorem ct_X10_endClause {G : Gx} (t : Nat) (h : Hp)  (ht : t ∈ txL) {P : Hp → Prop} (hh : OK (X10_endClause t h) P) : CT G yX10_endClause M_X10_endClause 2 0 0 FN h [aR t] (fun r F' h' => F' = FN ∧ r = none ∧ P h') :=
  CT.of (by decide +kernel) rfl (Nat.le_of_ble_eq_true rfl) k_X10_endClause fun k0 _ _ hM => c_X10_endClause hM t h ht (fun z hz => ⟨rfl, rfl, hz⟩) hh

