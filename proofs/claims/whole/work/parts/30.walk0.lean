set_option linter.all false
theorem mi_X11_within : MIs yX11_within M_X11_within 3 := ⟨(mem_GW 578 (by decide +kernel) rfl), (mem_GW 123 (by decide +kernel) rfl), by decide +kernel, by decide +kernel, by decide +kernel, by decide⟩
theorem ms_X11_within : .static yX11_within ∈ GW := (mem_GW 577 (by decide +kernel) rfl)
set_option maxRecDepth 20000 in
set_option maxHeartbeats 4000000 in
theorem c_X11_within {k0 : K0} {G : Gx} {Qp : Option AV → Fx → Hp → Prop} (hM : MB (KM k0 0 0 Qp) G M_X11_within 1) (v0 : Int) (v1 : Int) (v2 : Int) (h : Hp)  {P : Int → Prop} (hq : ∀ z : Int, P z → Qp (some (aI z)) FN h) (hh : OK (X11_within v0 v1 v2) P) : ATk (KM k0 0 0 Qp) FN 0 0 M_X11_within 0 [some (aI v0), some (aI v1), some (aI v2)] [] h := by
  unfold X11_within at hh
  refine A_blk hM.1 2 (lv1 := [some (aI v0), some (aI v1), some (aI v2)]) (s1 := [aI v1, aI v0]) (h1 := h) rfl ?_
  refine A_icmp hM.1 rfl rfl (fun hc => ?_) (fun hc => ?_)
  · replace hh := OK_t hh hc
    refine A_blk hM.1 1 (lv1 := [some (aI v0), some (aI v1), some (aI v2)]) (s1 := [aI 0]) (h1 := h) rfl ?_
    exact A_retz hM.1 rfl rfl rfl (by decide) (hq 0 hh)
  · replace hh := OK_f hh hc
    refine A_blk hM.1 2 (lv1 := [some (aI v0), some (aI v1), some (aI v2)]) (s1 := [aI v2, aI v0]) (h1 := h) rfl ?_
    refine A_icmp hM.1 rfl rfl (fun hc => ?_) (fun hc => ?_)
    · replace hh := OK_t hh hc
      refine A_blk hM.1 1 (lv1 := [some (aI v0), some (aI v1), some (aI v2)]) (s1 := [aI 0]) (h1 := h) rfl ?_
      exact A_retz hM.1 rfl rfl rfl (by decide) (hq 0 hh)
    · replace hh := OK_f hh hc
      refine A_blk hM.1 1 (lv1 := [some (aI v0), some (aI v1), some (aI v2)]) (s1 := [aI 1]) (h1 := h) rfl ?_
      refine A_go hM.1 rfl rfl ?_
      exact A_retz hM.1 rfl rfl rfl (by decide) (hq 1 hh)

set_option maxRecDepth 20000 in
set_option maxHeartbeats 4000000 in
theorem ct_X11_within {G : Gx} (v0 : Int) (v1 : Int) (v2 : Int) (h : Hp)  {P : Int → Prop} (hh : OK (X11_within v0 v1 v2) P) : CT G yX11_within M_X11_within 1 0 0 FN h [aI v0, aI v1, aI v2] (fun r F' h' => F' = FN ∧ ∃ z, r = some (aI z) ∧ h' = h ∧ P z) :=
  CT.of (by decide +kernel) rfl (Nat.le_of_ble_eq_true rfl) k_X11_within fun k0 _ _ hM => c_X11_within hM v0 v1 v2 h (fun z hz => ⟨rfl, z, rfl, rfl, hz⟩) hh

theorem mi_X11_put : MIs yX11_put M_X11_put 3 := ⟨(mem_GW 585 (by decide +kernel) rfl), (mem_GW 123 (by decide +kernel) rfl), by decide +kernel, by decide +kernel, by decide +kernel, by decide⟩
theorem ms_X11_put : .static yX11_put ∈ GW := (mem_GW 584 (by decide +kernel) rfl)
set_option maxRecDepth 20000 in
set_option maxHeartbeats 4000000 in
theorem c_X11_put {k0 : K0} {G : Gx} {Qp : Option AV → Fx → Hp → Prop} (hM : MB (KM k0 0 0 Qp) G M_X11_put 1) (a : Nat) (n : Nat) (v1 : Int) (v2 : Int) (h : Hp)  (hk : kd a = 14) (hn : ln a = n) {P : Hp → Prop} (hq : ∀ z : Hp, P z → Qp none FN z) (hh : OK (X11_put a n v1 v2 h) P) : ATk (KM k0 0 0 Qp) FN 0 0 M_X11_put 0 [some (aR a), some (aI v1), some (aI v2)] [] h := by
  unfold X11_put at hh
  refine A_blk hM.1 1 (lv1 := [some (aR a), some (aI v1), some (aI v2)]) (s1 := [aI v1]) (h1 := h) rfl ?_
  refine A_ifc hM.1 rfl rfl (fun hc => ?_) (fun hc => ?_)
  · replace hh := OK_t hh hc
    exact A_retv hM.1 rfl rfl rfl (hq h hh)
  · replace hh := OK_f hh hc
    refine A_blk hM.1 2 (lv1 := [some (aR a), some (aI v1), some (aI v2)]) (s1 := [aR a, aI v1]) (h1 := h) rfl ?_
    refine A_alen hM.1 rfl (Or.inl hk) hn (kd_in hk (by decide)) rfl ?_
    refine A_icmp hM.1 rfl rfl (fun hc => ?_) (fun hc => ?_)
    · replace hh := OK_t hh hc
      exact A_retv hM.1 rfl rfl rfl (hq h hh)
    · replace hh := OK_f hh hc
      refine A_blk hM.1 3 (lv1 := [some (aR a), some (aI v1), some (aI v2)]) (s1 := [aI v2, aI v1, aR a]) (h1 := h) rfl ?_
      obtain ⟨g1, hh⟩ := OK_g hh
      refine A_ast hM.1 rfl (Or.inl ⟨rfl, hk, rfl⟩) hn rfl rfl g1 ?_
      exact A_retv hM.1 rfl rfl rfl (hq (setH h a ((w32 v1).toNat) v2) hh)

set_option maxRecDepth 20000 in
set_option maxHeartbeats 4000000 in
theorem ct_X11_put {G : Gx} (a : Nat) (n : Nat) (v1 : Int) (v2 : Int) (h : Hp)  (hk : kd a = 14) (hn : ln a = n) {P : Hp → Prop} (hh : OK (X11_put a n v1 v2 h) P) : CT G yX11_put M_X11_put 1 0 0 FN h [aR a, aI v1, aI v2] (fun r F' h' => F' = FN ∧ r = none ∧ P h') :=
  CT.of (by decide +kernel) rfl (Nat.le_of_ble_eq_true rfl) k_X11_put fun k0 _ _ hM => c_X11_put hM a n v1 v2 h hk hn (fun z hz => ⟨rfl, rfl, hz⟩) hh

theorem mi_X7_addAuthor : MIv yX7_addAuthor M_X7_addAuthor 2 := ⟨⟨(mem_GW 582 (by decide +kernel) rfl), (mem_GW 125 (by decide +kernel) rfl), by decide +kernel, by decide +kernel, by decide +kernel, by decide⟩, (mem_GW 580 (by decide +kernel) rfl), (mem_GW 581 (by decide +kernel) rfl)⟩
set_option maxRecDepth 20000 in
set_option maxHeartbeats 4000000 in
theorem c_X7_addAuthor {k0 : K0} {G : Gx} {Qp : Option AV → Fx → Hp → Prop} (hM : MB (KM k0 0 0 Qp) G M_X7_addAuthor 2) (v1 : Int) (v2 : Int) (h : Hp)   {P : (Int × Hp) → Prop} (hq : ∀ z : Int × Hp, P z → Qp (some (aI z.1)) FN z.2) (hh : OK (X7_addAuthor v1 v2 h) P) : ATk (KM k0 0 0 Qp) FN 0 0 M_X7_addAuthor 0 [some (aR 3), some (aI v1), some (aI v2)] [] h := by
  unfold X7_addAuthor at hh
  refine A_blk hM.1 3 (lv1 := [some (aR 3), some (aI v1), some (aI v2)]) (s1 := [aI 8, aI (h 3 0)]) (h1 := h) rfl ?_
  refine A_icmp hM.1 rfl rfl (fun hc => ?_) (fun hc => ?_)
  · replace hh := OK_t hh hc
    refine A_blk hM.1 5 (lv1 := [some (aR 3), some (aI v1), some (aI v2)]) (s1 := [aI v1, aI (h 3 0), aR 4]) (h1 := h) rfl ?_
    refine A_callSN (host := "QuotedBooks") hM rfl rfl (mem_NW 583 (by decide +kernel) rfl) mi_X11_put ms_X11_put (As := [aR 4, aI (h 3 0), aI v1]) (rest := []) (ct_X11_put 4 8 (h 3 0) v1 h rfl rfl (OK_bind hh)) (by decide) ⟨Nat.zero_le _, Nat.zero_le _⟩ rfl rfl (Nat.le_of_ble_eq_true rfl) (fun r F' h' hq1 => ?_)
    obtain ⟨rfl, rfl, hh⟩ := hq1
    obtain ⟨r1, rfl⟩ : ∃ z, z = h' := ⟨_, rfl⟩
    refine A_blk hM.1 5 (lv1 := [some (aR 3), some (aI v1), some (aI v2)]) (s1 := [aI v2, aI (r1 3 0), aR 5]) (h1 := r1) rfl ?_
    refine A_callSN (host := "QuotedBooks") hM rfl rfl (mem_NW 583 (by decide +kernel) rfl) mi_X11_put ms_X11_put (As := [aR 5, aI (r1 3 0), aI v2]) (rest := []) (ct_X11_put 5 8 (r1 3 0) v2 r1 rfl rfl (OK_bind hh)) (by decide) ⟨Nat.zero_le _, Nat.zero_le _⟩ rfl rfl (Nat.le_of_ble_eq_true rfl) (fun r F' h' hq1 => ?_)
    obtain ⟨rfl, rfl, hh⟩ := hq1
    obtain ⟨r2, rfl⟩ : ∃ z, z = h' := ⟨_, rfl⟩
    refine A_blk hM.1 10 (lv1 := [some (aR 3), some (aI v1), some (aI v2)]) (s1 := [aI (((r2 3 0) + 1) - 1)]) (h1 := setH r2 3 0 ((r2 3 0) + 1)) rfl ?_
    exact A_reti hM.1 rfl rfl rfl (hq (((r2 3 0) + 1) - 1, setH r2 3 0 ((r2 3 0) + 1)) hh)
  · replace hh := OK_f hh hc
    refine A_blk hM.1 1 (lv1 := [some (aR 3), some (aI v1), some (aI v2)]) (s1 := [aI (-1)]) (h1 := h) rfl ?_
    exact A_reti hM.1 rfl rfl rfl (hq ((-1), h) hh)

set_option maxRecDepth 20000 in
set_option maxHeartbeats 4000000 in
theorem ct_X7_addAuthor {G : Gx} (v1 : Int) (v2 : Int) (h : Hp)   {P : (Int × Hp) → Prop} (hh : OK (X7_addAuthor v1 v2 h) P) : CT G yX7_addAuthor M_X7_addAuthor 2 0 0 FN h [aR 3, aI v1, aI v2] (fun r F' h' => F' = FN ∧ ∃ z, r = some (aI z.1) ∧ h' = z.2 ∧ P z) :=
  CT.of (by decide +kernel) rfl (Nat.le_of_ble_eq_true rfl) k_X7_addAuthor fun k0 _ _ hM => c_X7_addAuthor hM v1 v2 h (fun z hz => ⟨rfl, z, rfl, rfl, hz⟩) hh

theorem mi_X11_author : MIv yX11_author M_X11_author 2 := ⟨⟨(mem_GW 575 (by decide +kernel) rfl), (mem_GW 123 (by decide +kernel) rfl), by decide +kernel, by decide +kernel, by decide +kernel, by decide⟩, (mem_GW 573 (by decide +kernel) rfl), (mem_GW 574 (by decide +kernel) rfl)⟩
set_option maxRecDepth 20000 in
set_option maxHeartbeats 4000000 in
theorem c_X11_author {k0 : K0} {G : Gx} {Qp : Option AV → Fx → Hp → Prop} (hM : MB (KM k0 0 0 Qp) G M_X11_author 3) (v1 : Int) (v2 : Int) (h : Hp)   {P : (Int × Hp) → Prop} (hq : ∀ z : Int × Hp, P z → Qp (some (aI z.1)) FN z.2) (hh : OK (X11_author v1 v2 h) P) : ATk (KM k0 0 0 Qp) FN 0 0 M_X11_author 0 [some (aR 0), some (aI v1), some (aI v2)] [] h := by
  unfold X11_author at hh
  refine A_blk hM.1 3 (lv1 := [some (aR 0), some (aI v1), some (aI v2)]) (s1 := [aI 999, aI 0, aI v1]) (h1 := h) rfl ?_
  refine A_callS hM rfl rfl (mem_GW 576 (by decide +kernel) rfl) mi_X11_within ms_X11_within (As := [aI v1, aI 0, aI 999]) (rest := []) (ct_X11_within v1 0 999 h (OK_bind hh)) (by decide) ⟨Nat.zero_le _, Nat.zero_le _⟩ rfl rfl (Nat.le_of_ble_eq_true rfl) (fun r F' h' hq1 => ?_)
  obtain ⟨rfl, r1, rfl, e9, hh⟩ := hq1
  subst h'
  refine A_ifc hM.1 rfl rfl (fun hc => ?_) (fun hc => ?_)
  · replace hh := OK_t hh hc
    refine A_blk hM.1 1 (lv1 := [some (aR 0), some (aI v1), some (aI v2)]) (s1 := [aI (-1)]) (h1 := h) rfl ?_
    exact A_reti hM.1 rfl rfl rfl (hq ((-1), h) hh)
  · replace hh := OK_f hh hc
    refine A_blk hM.1 3 (lv1 := [some (aR 0), some (aI v1), some (aI v2)]) (s1 := [aI 100, aI 1, aI v2]) (h1 := h) rfl ?_
    refine A_callS hM rfl rfl (mem_GW 576 (by decide +kernel) rfl) mi_X11_within ms_X11_within (As := [aI v2, aI 1, aI 100]) (rest := []) (ct_X11_within v2 1 100 h (OK_bind hh)) (by decide) ⟨Nat.zero_le _, Nat.zero_le _⟩ rfl rfl (Nat.le_of_ble_eq_true rfl) (fun r F' h' hq1 => ?_)
    obtain ⟨rfl, r2, rfl, e9, hh⟩ := hq1
    subst h'
    refine A_ifc hM.1 rfl rfl (fun hc => ?_) (fun hc => ?_)
    · replace hh := OK_t hh hc
      refine A_blk hM.1 4 (lv1 := [some (aR 0), some (aI v1), some (aI v2)]) (s1 := [aI v2, aI v1, aR 3]) (h1 := h) rfl ?_
      refine A_callV hM rfl rfl (mem_GW 579 (by decide +kernel) rfl) mi_X7_addAuthor (As := [aI v1, aI v2]) (rest := []) (ct_X7_addAuthor v1 v2 h (OK_bind hh)) (by decide) ⟨Nat.zero_le _, Nat.zero_le _⟩ rfl rfl (Nat.le_of_ble_eq_true rfl) (by decide) rfl (by decide) rfl (fun r F' h' hq1 => ?_)
      obtain ⟨rfl, r3, rfl, e9, hh⟩ := hq1
      subst h'
      exact A_reti hM.1 rfl rfl rfl (hq (r3.1, r3.2) hh)
    · replace hh := OK_f hh hc
      refine A_blk hM.1 1 (lv1 := [some (aR 0), some (aI v1), some (aI v2)]) (s1 := [aI (-1)]) (h1 := h) rfl ?_
      exact A_reti hM.1 rfl rfl rfl (hq ((-1), h) hh)

set_option maxRecDepth 20000 in
set_option maxHeartbeats 4000000 in
theorem ct_X11_author {G : Gx} (v1 : Int) (v2 : Int) (h : Hp)   {P : (Int × Hp) → Prop} (hh : OK (X11_author v1 v2 h) P) : CT G yX11_author M_X11_author 3 0 0 FN h [aR 0, aI v1, aI v2] (fun r F' h' => F' = FN ∧ ∃ z, r = some (aI z.1) ∧ h' = z.2 ∧ P z) :=
  CT.of (by decide +kernel) rfl (Nat.le_of_ble_eq_true rfl) k_X11_author fun k0 _ _ hM => c_X11_author hM v1 v2 h (fun z hz => ⟨rfl, z, rfl, rfl, hz⟩) hh

theorem mi_X7_isAuthor : MIv yX7_isAuthor M_X7_isAuthor 1 := ⟨⟨(mem_GW 593 (by decide +kernel) rfl), (mem_GW 125 (by decide +kernel) rfl), by decide +kernel, by decide +kernel, by decide +kernel, by decide⟩, (mem_GW 591 (by decide +kernel) rfl), (mem_GW 592 (by decide +kernel) rfl)⟩
set_option maxRecDepth 20000 in
set_option maxHeartbeats 4000000 in
theorem c_X7_isAuthor {k0 : K0} {G : Gx} {Qp : Option AV → Fx → Hp → Prop} (hM : MB (KM k0 0 0 Qp) G M_X7_isAuthor 1) (v1 : Int) (h : Hp)   {P : Int → Prop} (hq : ∀ z : Int, P z → Qp (some (aI z)) FN h) (hh : OK (X7_isAuthor v1 h) P) : ATk (KM k0 0 0 Qp) FN 0 0 M_X7_isAuthor 0 [some (aR 3), some (aI v1)] [] h := by
  unfold X7_isAuthor at hh
  refine A_blk hM.1 1 (lv1 := [some (aR 3), some (aI v1)]) (s1 := [aI v1]) (h1 := h) rfl ?_
  refine A_ifc hM.1 rfl rfl (fun hc => ?_) (fun hc => ?_)
  · replace hh := OK_t hh hc
    refine A_blk hM.1 1 (lv1 := [some (aR 3), some (aI v1)]) (s1 := [aI 0]) (h1 := h) rfl ?_
    exact A_retz hM.1 rfl rfl rfl (by decide) (hq 0 hh)
  · replace hh := OK_f hh hc
    refine A_blk hM.1 3 (lv1 := [some (aR 3), some (aI v1)]) (s1 := [aI (h 3 0), aI v1]) (h1 := h) rfl ?_
    refine A_icmp hM.1 rfl rfl (fun hc => ?_) (fun hc => ?_)
    · replace hh := OK_t hh hc
      refine A_blk hM.1 1 (lv1 := [some (aR 3), some (aI v1)]) (s1 := [aI 0]) (h1 := h) rfl ?_
      exact A_retz hM.1 rfl rfl rfl (by decide) (hq 0 hh)
    · replace hh := OK_f hh hc
      refine A_blk hM.1 1 (lv1 := [some (aR 3), some (aI v1)]) (s1 := [aI 1]) (h1 := h) rfl ?_
      refine A_go hM.1 rfl rfl ?_
      exact A_retz hM.1 rfl rfl rfl (by decide) (hq 1 hh)

set_option maxRecDepth 20000 in
set_option maxHeartbeats 4000000 in
theorem ct_X7_isAuthor {G : Gx} (v1 : Int) (h : Hp)   {P : Int → Prop} (hh : OK (X7_isAuthor v1 h) P) : CT G yX7_isAuthor M_X7_isAuthor 1 0 0 FN h [aR 3, aI v1] (fun r F' h' => F' = FN ∧ ∃ z, r = some (aI z) ∧ h' = h ∧ P z) :=
  CT.of (by decide +kernel) rfl (Nat.le_of_ble_eq_true rfl) k_X7_isAuthor fun k0 _ _ hM => c_X7_isAuthor hM v1 h (fun z hz => ⟨rfl, z, rfl, rfl, hz⟩) hh

theorem mi_X7_addWork : MIv yX7_addWork M_X7_addWork 2 := ⟨⟨(mem_GW 597 (by decide +kernel) rfl), (mem_GW 125 (by decide +kernel) rfl), by decide +kernel, by decide +kernel, by decide +kernel, by decide⟩, (mem_GW 595 (by decide +kernel) rfl), (mem_GW 596 (by decide +kernel) rfl)⟩
set_option maxRecDepth 20000 in
set_option maxHeartbeats 4000000 in
theorem c_X7_addWork {k0 : K0} {G : Gx} {Qp : Option AV → Fx → Hp → Prop} (hM : MB (KM k0 0 0 Qp) G M_X7_addWork 2) (v1 : Int) (v2 : Int) (h : Hp)   {P : (Int × Hp) → Prop} (hq : ∀ z : Int × Hp, P z → Qp (some (aI z.1)) FN z.2) (hh : OK (X7_addWork v1 v2 h) P) : ATk (KM k0 0 0 Qp) FN 0 0 M_X7_addWork 0 [some (aR 3), some (aI v1), some (aI v2)] [] h := by
  unfold X7_addWork at hh
  refine A_blk hM.1 3 (lv1 := [some (aR 3), some (aI v1), some (aI v2)]) (s1 := [aI 8, aI (h 3 3)]) (h1 := h) rfl ?_
  refine A_icmp hM.1 rfl rfl (fun hc => ?_) (fun hc => ?_)
  · replace hh := OK_t hh hc
    refine A_blk hM.1 5 (lv1 := [some (aR 3), some (aI v1), some (aI v2)]) (s1 := [aI v1, aI (h 3 3), aR 6]) (h1 := h) rfl ?_
    refine A_callSN (host := "QuotedBooks") hM rfl rfl (mem_NW 583 (by decide +kernel) rfl) mi_X11_put ms_X11_put (As := [aR 6, aI (h 3 3), aI v1]) (rest := []) (ct_X11_put 6 8 (h 3 3) v1 h rfl rfl (OK_bind hh)) (by decide) ⟨Nat.zero_le _, Nat.zero_le _⟩ rfl rfl (Nat.le_of_ble_eq_true rfl) (fun r F' h' hq1 => ?_)
    obtain ⟨rfl, rfl, hh⟩ := hq1
    obtain ⟨r1, rfl⟩ : ∃ z, z = h' := ⟨_, rfl⟩
    refine A_blk hM.1 5 (lv1 := [some (aR 3), some (aI v1), some (aI v2)]) (s1 := [aI v2, aI (r1 3 3), aR 7]) (h1 := r1) rfl ?_
    refine A_callSN (host := "QuotedBooks") hM rfl rfl (mem_NW 583 (by decide +kernel) rfl) mi_X11_put ms_X11_put (As := [aR 7, aI (r1 3 3), aI v2]) (rest := []) (ct_X11_put 7 8 (r1 3 3) v2 r1 rfl rfl (OK_bind hh)) (by decide) ⟨Nat.zero_le _, Nat.zero_le _⟩ rfl rfl (Nat.le_of_ble_eq_true rfl) (fun r F' h' hq1 => ?_)
    obtain ⟨rfl, rfl, hh⟩ := hq1
    obtain ⟨r2, rfl⟩ : ∃ z, z = h' := ⟨_, rfl⟩
    refine A_blk hM.1 10 (lv1 := [some (aR 3), some (aI v1), some (aI v2)]) (s1 := [aI (((r2 3 3) + 1) - 1)]) (h1 := setH r2 3 3 ((r2 3 3) + 1)) rfl ?_
    exact A_reti hM.1 rfl rfl rfl (hq (((r2 3 3) + 1) - 1, setH r2 3 3 ((r2 3 3) + 1)) hh)
  · replace hh := OK_f hh hc
    refine A_blk hM.1 1 (lv1 := [some (aR 3), some (aI v1), some (aI v2)]) (s1 := [aI (-1)]) (h1 := h) rfl ?_
    exact A_reti hM.1 rfl rfl rfl (hq ((-1), h) hh)

set_option maxRecDepth 20000 in
set_option maxHeartbeats 4000000 in
theorem ct_X7_addWork {G : Gx} (v1 : Int) (v2 : Int) (h : Hp)   {P : (Int × Hp) → Prop} (hh : OK (X7_addWork v1 v2 h) P) : CT G yX7_addWork M_X7_addWork 2 0 0 FN h [aR 3, aI v1, aI v2] (fun r F' h' => F' = FN ∧ ∃ z, r = some (aI z.1) ∧ h' = z.2 ∧ P z) :=
  CT.of (by decide +kernel) rfl (Nat.le_of_ble_eq_true rfl) k_X7_addWork fun k0 _ _ hM => c_X7_addWork hM v1 v2 h (fun z hz => ⟨rfl, z, rfl, rfl, hz⟩) hh

theorem mi_X11_work : MIv yX11_work M_X11_work 2 := ⟨⟨(mem_GW 589 (by decide +kernel) rfl), (mem_GW 123 (by decide +kernel) rfl), by decide +kernel, by decide +kernel, by decide +kernel, by decide⟩, (mem_GW 587 (by decide +kernel) rfl), (mem_GW 588 (by decide +kernel) rfl)⟩
set_option maxRecDepth 20000 in
set_option maxHeartbeats 4000000 in
theorem c_X11_work {k0 : K0} {G : Gx} {Qp : Option AV → Fx → Hp → Prop} (hM : MB (KM k0 0 0 Qp) G M_X11_work 3) (v1 : Int) (v2 : Int) (h : Hp)   {P : (Int × Hp) → Prop} (hq : ∀ z : Int × Hp, P z → Qp (some (aI z.1)) FN z.2) (hh : OK (X11_work v1 v2 h) P) : ATk (KM k0 0 0 Qp) FN 0 0 M_X11_work 0 [some (aR 0), some (aI v1), some (aI v2)] [] h := by
  unfold X11_work at hh
  refine A_blk hM.1 3 (lv1 := [some (aR 0), some (aI v1), some (aI v2)]) (s1 := [aI v1, aR 3]) (h1 := h) rfl ?_
  refine A_callV hM rfl rfl (mem_GW 590 (by decide +kernel) rfl) mi_X7_isAuthor (As := [aI v1]) (rest := []) (ct_X7_isAuthor v1 h (OK_bind hh)) (by decide) ⟨Nat.zero_le _, Nat.zero_le _⟩ rfl rfl (Nat.le_of_ble_eq_true rfl) (by decide) rfl (by decide) rfl (fun r F' h' hq1 => ?_)
  obtain ⟨rfl, r1, rfl, e9, hh⟩ := hq1
  subst h'
  refine A_ifc hM.1 rfl rfl (fun hc => ?_) (fun hc => ?_)
  · replace hh := OK_t hh hc
    refine A_blk hM.1 1 (lv1 := [some (aR 0), some (aI v1), some (aI v2)]) (s1 := [aI (-1)]) (h1 := h) rfl ?_
    exact A_reti hM.1 rfl rfl rfl (hq ((-1), h) hh)
  · replace hh := OK_f hh hc
    refine A_blk hM.1 3 (lv1 := [some (aR 0), some (aI v1), some (aI v2)]) (s1 := [aI 40, aI 1, aI v2]) (h1 := h) rfl ?_
    refine A_callS hM rfl rfl (mem_GW 576 (by decide +kernel) rfl) mi_X11_within ms_X11_within (As := [aI v2, aI 1, aI 40]) (rest := []) (ct_X11_within v2 1 40 h (OK_bind hh)) (by decide) ⟨Nat.zero_le _, Nat.zero_le _⟩ rfl rfl (Nat.le_of_ble_eq_true rfl) (fun r F' h' hq1 => ?_)
    obtain ⟨rfl, r2, rfl, e9, hh⟩ := hq1
    subst h'
    refine A_ifc hM.1 rfl rfl (fun hc => ?_) (fun hc => ?_)
    · replace hh := OK_t hh hc
      refine A_blk hM.1 4 (lv1 := [some (aR 0), some (aI v1), some (aI v2)]) (s1 := [aI v2, aI v1, aR 3]) (h1 := h) rfl ?_
      refine A_callV hM rfl rfl (mem_GW 594 (by decide +kernel) rfl) mi_X7_addWork (As := [aI v1, aI v2]) (rest := []) (ct_X7_addWork v1 v2 h (OK_bind hh)) (by decide) ⟨Nat.zero_le _, Nat.zero_le _⟩ rfl rfl (Nat.le_of_ble_eq_true rfl) (by decide) rfl (by decide) rfl (fun r F' h' hq1 => ?_)
      obtain ⟨rfl, r3, rfl, e9, hh⟩ := hq1
      subst h'
      exact A_reti hM.1 rfl rfl rfl (hq (r3.1, r3.2) hh)
    · replace hh := OK_f hh hc
      refine A_blk hM.1 1 (lv1 := [some (aR 0), some (aI v1), some (aI v2)]) (s1 := [aI (-1)]) (h1 := h) rfl ?_
      exact A_reti hM.1 rfl rfl rfl (hq ((-1), h) hh)

set_option maxRecDepth 20000 in
set_option maxHeartbeats 4000000 in
theorem ct_X11_work {G : Gx} (v1 : Int) (v2 : Int) (h : Hp)   {P : (Int × Hp) → Prop} (hh : OK (X11_work v1 v2 h) P) : CT G yX11_work M_X11_work 3 0 0 FN h [aR 0, aI v1, aI v2] (fun r F' h' => F' = FN ∧ ∃ z, r = some (aI z.1) ∧ h' = z.2 ∧ P z) :=
  CT.of (by decide +kernel) rfl (Nat.le_of_ble_eq_true rfl) k_X11_work fun k0 _ _ hM => c_X11_work hM v1 v2 h (fun z hz => ⟨rfl, z, rfl, rfl, hz⟩) hh

theorem mi_X7_addWriter : MIv yX7_addWriter M_X7_addWriter 1 := ⟨⟨(mem_GW 605 (by decide +kernel) rfl), (mem_GW 125 (by decide +kernel) rfl), by decide +kernel, by decide +kernel, by decide +kernel, by decide⟩, (mem_GW 603 (by decide +kernel) rfl), (mem_GW 604 (by decide +kernel) rfl)⟩
set_option maxRecDepth 20000 in
set_option maxHeartbeats 4000000 in
theorem c_X7_addWriter {k0 : K0} {G : Gx} {Qp : Option AV → Fx → Hp → Prop} (hM : MB (KM k0 0 0 Qp) G M_X7_addWriter 2) (v1 : Int) (h : Hp)   {P : (Int × Hp) → Prop} (hq : ∀ z : Int × Hp, P z → Qp (some (aI z.1)) FN z.2) (hh : OK (X7_addWriter v1 h) P) : ATk (KM k0 0 0 Qp) FN 0 0 M_X7_addWriter 0 [some (aR 3), some (aI v1)] [] h := by
  unfold X7_addWriter at hh
  refine A_blk hM.1 3 (lv1 := [some (aR 3), some (aI v1)]) (s1 := [aI 8, aI (h 3 9)]) (h1 := h) rfl ?_
  refine A_icmp hM.1 rfl rfl (fun hc => ?_) (fun hc => ?_)
  · replace hh := OK_t hh hc
    refine A_blk hM.1 5 (lv1 := [some (aR 3), some (aI v1)]) (s1 := [aI v1, aI (h 3 9), aR 11]) (h1 := h) rfl ?_
    refine A_callSN (host := "QuotedBooks") hM rfl rfl (mem_NW 583 (by decide +kernel) rfl) mi_X11_put ms_X11_put (As := [aR 11, aI (h 3 9), aI v1]) (rest := []) (ct_X11_put 11 8 (h 3 9) v1 h rfl rfl (OK_bind hh)) (by decide) ⟨Nat.zero_le _, Nat.zero_le _⟩ rfl rfl (Nat.le_of_ble_eq_true rfl) (fun r F' h' hq1 => ?_)
    obtain ⟨rfl, rfl, hh⟩ := hq1
    obtain ⟨r1, rfl⟩ : ∃ z, z = h' := ⟨_, rfl⟩
    refine A_blk hM.1 10 (lv1 := [some (aR 3), some (aI v1)]) (s1 := [aI (((r1 3 9) + 1) - 1)]) (h1 := setH r1 3 9 ((r1 3 9) + 1)) rfl ?_
    exact A_reti hM.1 rfl rfl rfl (hq (((r1 3 9) + 1) - 1, setH r1 3 9 ((r1 3 9) + 1)) hh)
  · replace hh := OK_f hh hc
    refine A_blk hM.1 1 (lv1 := [some (aR 3), some (aI v1)]) (s1 := [aI (-1)]) (h1 := h) rfl ?_
    exact A_reti hM.1 rfl rfl rfl (hq ((-1), h) hh)

set_option maxRecDepth 20000 in
set_option maxHeartbeats 4000000 in
theorem ct_X7_addWriter {G : Gx} (v1 : Int) (h : Hp)   {P : (Int × Hp) → Prop} (hh : OK (X7_addWriter v1 h) P) : CT G yX7_addWriter M_X7_addWriter 2 0 0 FN h [aR 3, aI v1] (fun r F' h' => F' = FN ∧ ∃ z, r = some (aI z.1) ∧ h' = z.2 ∧ P z) :=
  CT.of (by decide +kernel) rfl (Nat.le_of_ble_eq_true rfl) k_X7_addWriter fun k0 _ _ hM => c_X7_addWriter hM v1 h (fun z hz => ⟨rfl, z, rfl, rfl, hz⟩) hh

theorem mi_X11_writer : MIv yX11_writer M_X11_writer 1 := ⟨⟨(mem_GW 601 (by decide +kernel) rfl), (mem_GW 123 (by decide +kernel) rfl), by decide +kernel, by decide +kernel, by decide +kernel, by decide⟩, (mem_GW 599 (by decide +kernel) rfl), (mem_GW 600 (by decide +kernel) rfl)⟩
set_option maxRecDepth 20000 in
set_option maxHeartbeats 4000000 in
theorem c_X11_writer {k0 : K0} {G : Gx} {Qp : Option AV → Fx → Hp → Prop} (hM : MB (KM k0 0 0 Qp) G M_X11_writer 3) (v1 : Int) (h : Hp)   {P : (Int × Hp) → Prop} (hq : ∀ z : Int × Hp, P z → Qp (some (aI z.1)) FN z.2) (hh : OK (X11_writer v1 h) P) : ATk (KM k0 0 0 Qp) FN 0 0 M_X11_writer 0 [some (aR 0), some (aI v1)] [] h := by
  unfold X11_writer at hh
  refine A_blk hM.1 3 (lv1 := [some (aR 0), some (aI v1)]) (s1 := [aI 999, aI 0, aI v1]) (h1 := h) rfl ?_
  refine A_callS hM rfl rfl (mem_GW 576 (by decide +kernel) rfl) mi_X11_within ms_X11_within (As := [aI v1, aI 0, aI 999]) (rest := []) (ct_X11_within v1 0 999 h (OK_bind hh)) (by decide) ⟨Nat.zero_le _, Nat.zero_le _⟩ rfl rfl (Nat.le_of_ble_eq_true rfl) (fun r F' h' hq1 => ?_)
  obtain ⟨rfl, r1, rfl, e9, hh⟩ := hq1
  subst h'
  refine A_ifc hM.1 rfl rfl (fun hc => ?_) (fun hc => ?_)
  · replace hh := OK_t hh hc
    refine A_blk hM.1 1 (lv1 := [some (aR 0), some (aI v1)]) (s1 := [aI (-1)]) (h1 := h) rfl ?_
    exact A_reti hM.1 rfl rfl rfl (hq ((-1), h) hh)
  · replace hh := OK_f hh hc
    refine A_blk hM.1 3 (lv1 := [some (aR 0), some (aI v1)]) (s1 := [aI v1, aR 3]) (h1 := h) rfl ?_
    refine A_callV hM rfl rfl (mem_GW 602 (by decide +kernel) rfl) mi_X7_addWriter (As := [aI v1]) (rest := []) (ct_X7_addWriter v1 h (OK_bind hh)) (by decide) ⟨Nat.zero_le _, Nat.zero_le _⟩ rfl rfl (Nat.le_of_ble_eq_true rfl) (by decide) rfl (by decide) rfl (fun r F' h' hq1 => ?_)
    obtain ⟨rfl, r2, rfl, e9, hh⟩ := hq1
    subst h'
    refine A_go hM.1 rfl rfl ?_
    exact A_reti hM.1 rfl rfl rfl (hq (r2.1, r2.2) hh)

set_option maxRecDepth 20000 in
set_option maxHeartbeats 4000000 in
theorem ct_X11_writer {G : Gx} (v1 : Int) (h : Hp)   {P : (Int × Hp) → Prop} (hh : OK (X11_writer v1 h) P) : CT G yX11_writer M_X11_writer 3 0 0 FN h [aR 0, aI v1] (fun r F' h' => F' = FN ∧ ∃ z, r = some (aI z.1) ∧ h' = z.2 ∧ P z) :=
  CT.of (by decide +kernel) rfl (Nat.le_of_ble_eq_true rfl) k_X11_writer fun k0 _ _ hM => c_X11_writer hM v1 h (fun z hz => ⟨rfl, z, rfl, rfl, hz⟩) hh

theorem mi_X11_seed : MIv yX11_seed M_X11_seed 1 := ⟨⟨(mem_GW 609 (by decide +kernel) rfl), (mem_GW 123 (by decide +kernel) rfl), by decide +kernel, by decide +kernel, by decide +kernel, by decide⟩, (mem_GW 607 (by decide +kernel) rfl), (mem_GW 608 (by decide +kernel) rfl)⟩
set_option maxRecDepth 20000 in
set_option maxHeartbeats 4000000 in
theorem c_X11_seed {k0 : K0} {G : Gx} {Qp : Option AV → Fx → Hp → Prop} (hM : MB (KM k0 0 0 Qp) G M_X11_seed 2) (v1 : Int) (h : Hp)   {P : (Int × Hp) → Prop} (hq : ∀ z : Int × Hp, P z → Qp (some (aI z.1)) FN z.2) (hh : OK (X11_seed v1 h) P) : ATk (KM k0 0 0 Qp) FN 0 0 M_X11_seed 0 [some (aR 0), some (aI v1)] [] h := by
  unfold X11_seed at hh
  refine A_blk hM.1 3 (lv1 := [some (aR 0), some (aI v1)]) (s1 := [aI 65535, aI 0, aI v1]) (h1 := h) rfl ?_
  refine A_callS hM rfl rfl (mem_GW 576 (by decide +kernel) rfl) mi_X11_within ms_X11_within (As := [aI v1, aI 0, aI 65535]) (rest := []) (ct_X11_within v1 0 65535 h (OK_bind hh)) (by decide) ⟨Nat.zero_le _, Nat.zero_le _⟩ rfl rfl (Nat.le_of_ble_eq_true rfl) (fun r F' h' hq1 => ?_)
  obtain ⟨rfl, r1, rfl, e9, hh⟩ := hq1
  subst h'
  refine A_ifc hM.1 rfl rfl (fun hc => ?_) (fun hc => ?_)
  · replace hh := OK_t hh hc
    refine A_blk hM.1 4 (lv1 := [some (aR 0), some (aI v1)]) (s1 := [aI 1]) (h1 := setH h 0 15 v1) rfl ?_
    exact A_retz hM.1 rfl rfl rfl (by decide) (hq (1, setH h 0 15 v1) hh)
  · replace hh := OK_f hh hc
    refine A_blk hM.1 1 (lv1 := [some (aR 0), some (aI v1)]) (s1 := [aI 0]) (h1 := h) rfl ?_
    exact A_retz hM.1 rfl rfl rfl (by decide) (hq (0, h) hh)

set_option maxRecDepth 20000 in
set_option maxHeartbeats 4000000 in
theorem ct_X11_seed {G : Gx} (v1 : Int) (h : Hp)   {P : (Int × Hp) → Prop} (hh : OK (X11_seed v1 h) P) : CT G yX11_seed M_X11_seed 2 0 0 FN h [aR 0, aI v1] (fun r F' h' => F' = FN ∧ ∃ z, r = some (aI z.1) ∧ h' = z.2 ∧ P z) :=
  CT.of (by decide +kernel) rfl (Nat.le_of_ble_eq_true rfl) k_X11_seed fun k0 _ _ hM => c_X11_seed hM v1 h (fun z hz => ⟨rfl, z, rfl, rfl, hz⟩) hh

theorem mi_X9_hasRoomFor : MIv yX9_hasRoomFor M_X9_hasRoomFor 1 := ⟨⟨(mem_GW 618 (by decide +kernel) rfl), (mem_GW 124 (by decide +kernel) rfl), by decide +kernel, by decide +kernel, by decide +kernel, by decide⟩, (mem_GW 616 (by decide +kernel) rfl), (mem_GW 617 (by decide +kernel) rfl)⟩
set_option maxRecDepth 20000 in
set_option maxHeartbeats 4000000 in
theorem c_X9_hasRoomFor {k0 : K0} {G : Gx} {Qp : Option AV → Fx → Hp → Prop} (hM : MB (KM k0 0 0 Qp) G M_X9_hasRoomFor 1) (v1 : Int) (h : Hp)   {P : Int → Prop} (hq : ∀ z : Int, P z → Qp (some (aI z)) FN h) (hh : OK (X9_hasRoomFor v1 h) P) : ATk (KM k0 0 0 Qp) FN 0 0 M_X9_hasRoomFor 0 [some (aR 1), some (aI v1)] [] h := by
  unfold X9_hasRoomFor at hh
  refine A_blk hM.1 5 (lv1 := [some (aR 1), some (aI v1)]) (s1 := [aI (200 - (h 1 1)), aI v1]) (h1 := h) rfl ?_
  refine A_icmp hM.1 rfl rfl (fun hc => ?_) (fun hc => ?_)
  · replace hh := OK_t hh hc
    refine A_blk hM.1 1 (lv1 := [some (aR 1), some (aI v1)]) (s1 := [aI 0]) (h1 := h) rfl ?_
    exact A_retz hM.1 rfl rfl rfl (by decide) (hq 0 hh)
  · replace hh := OK_f hh hc
    refine A_blk hM.1 1 (lv1 := [some (aR 1), some (aI v1)]) (s1 := [aI 1]) (h1 := h) rfl ?_
    refine A_go hM.1 rfl rfl ?_
    exact A_retz hM.1 rfl rfl rfl (by decide) (hq 1 hh)

set_option maxRecDepth 20000 in
set_option maxHeartbeats 4000000 in
theorem ct_X9_hasRoomFor {G : Gx} (v1 : Int) (h : Hp)   {P : Int → Prop} (hh : OK (X9_hasRoomFor v1 h) P) : CT G yX9_hasRoomFor M_X9_hasRoomFor 1 0 0 FN h [aR 1, aI v1] (fun r F' h' => F' = FN ∧ ∃ z, r = some (aI z) ∧ h' = h ∧ P z) :=
  CT.of (by decide +kernel) rfl (Nat.le_of_ble_eq_true rfl) k_X9_hasRoomFor fun k0 _ _ hM => c_X9_hasRoomFor hM v1 h (fun z hz => ⟨rfl, z, rfl, rfl, hz⟩) hh

theorem mi_X9_push : MIv yX9_push M_X9_push 1 := ⟨⟨(mem_GW 622 (by decide +kernel) rfl), (mem_GW 124 (by decide +kernel) rfl), by decide +kernel, by decide +kernel, by decide +kernel, by decide⟩, (mem_GW 620 (by decide +kernel) rfl), (mem_GW 621 (by decide +kernel) rfl)⟩
set_option maxRecDepth 20000 in
set_option maxHeartbeats 4000000 in
theorem c_X9_push_j24 {k0 : K0} {G : Gx} {Qp : Option AV → Fx → Hp → Prop} (hM : MB (KM k0 0 0 Qp) G M_X9_push 2) (v1 : Int) (v2 : Int) (h : Hp)   {P : ((Int × Hp) ⊕ (Hp)) → Prop} (hin : ∀ y : Int × Hp, P (.inl y) → ATk (KM k0 0 0 Qp) FN 0 0 M_X9_push 2 [some (aR 1), some (aI v1), some (aI y.1)] [] y.2) (hout0 : ∀ y : Hp, P (.inr y) → ATk (KM k0 0 0 Qp) FN 0 0 M_X9_push 26 [none, none, none] [] y) (hh : OK (X9_push_j24 v1 v2 h) P) : ATk (KM k0 0 0 Qp) FN 0 0 M_X9_push 24 [some (aR 1), some (aI v1), some (aI v2)] [] h := by
  unfold X9_push_j24 at hh
  refine A_blk hM.1 1 (lv1 := [some (aR 1), some (aI v1), some (aI (v2 + (-8)))]) (s1 := []) (h1 := h) rfl ?_
  refine A_go hM.1 rfl rfl ?_
  exact hin (v2 + (-8), h) hh

set_option maxRecDepth 20000 in
set_option maxHeartbeats 4000000 in
theorem c_X9_push_l2 {k0 : K0} {G : Gx} {Qp : Option AV → Fx → Hp → Prop} (hM : MB (KM k0 0 0 Qp) G M_X9_push 2) (v1 : Int) (x : Int × Hp)   {P : ((Int × Hp) ⊕ (Hp)) → Prop} (hin : ∀ y : Int × Hp, P (.inl y) → ATk (KM k0 0 0 Qp) FN 0 0 M_X9_push 2 [some (aR 1), some (aI v1), some (aI y.1)] [] y.2) (hout0 : ∀ y : Hp, P (.inr y) → ATk (KM k0 0 0 Qp) FN 0 0 M_X9_push 26 [none, none, none] [] y) (hh : OK (X9_push_l2 v1 x) P) : ATk (KM k0 0 0 Qp) FN 0 0 M_X9_push 2 [some (aR 1), some (aI v1), some (aI x.1)] [] x.2 := by
  unfold X9_push_l2 at hh
  refine A_blk hM.1 1 (lv1 := [some (aR 1), some (aI v1), some (aI x.1)]) (s1 := [aI x.1]) (h1 := x.2) rfl ?_
  refine A_ifc hM.1 rfl rfl (fun hc => ?_) (fun hc => ?_)
  · replace hh := OK_t hh hc
    refine A_mask [false, false, false] (lv1 := [none, none, none]) rfl ?_
    exact hout0 x.2 hh
  · replace hh := OK_f hh hc
    refine A_blk hM.1 3 (lv1 := [some (aR 1), some (aI v1), some (aI x.1)]) (s1 := [aI 200, aI (x.2 1 1)]) (h1 := x.2) rfl ?_
    refine A_icmp hM.1 rfl rfl (fun hc => ?_) (fun hc => ?_)
    · replace hh := OK_t hh hc
      exact c_X9_push_j24 hM v1 x.1 x.2 hin hout0 hh
    · replace hh := OK_f hh hc
      refine A_blk hM.1 9 (lv1 := [some (aR 1), some (aI v1), some (aI x.1)]) (s1 := [aI (and32 (ushr32 v1 x.1) 255), aI (x.2 1 1), aR 2]) (h1 := x.2) rfl ?_
      refine A_callSN (host := "QuotedBooks") hM rfl rfl (mem_NW 623 (by decide +kernel) rfl) mi_X11_put ms_X11_put (As := [aR 2, aI (x.2 1 1), aI (and32 (ushr32 v1 x.1) 255)]) (rest := []) (ct_X11_put 2 200 (x.2 1 1) (and32 (ushr32 v1 x.1) 255) x.2 rfl rfl (OK_bind hh)) (by decide) ⟨Nat.zero_le _, Nat.zero_le _⟩ rfl rfl (Nat.le_of_ble_eq_true rfl) (fun r F' h' hq1 => ?_)
      obtain ⟨rfl, rfl, hh⟩ := hq1
      obtain ⟨r1, rfl⟩ : ∃ z, z = h' := ⟨_, rfl⟩
      refine A_blk hM.1 6 (lv1 := [some (aR 1), some (aI v1), some (aI x.1)]) (s1 := []) (h1 := setH r1 1 1 ((r1 1 1) + 1)) rfl ?_
      exact c_X9_push_j24 hM v1 x.1 (setH r1 1 1 ((r1 1 1) + 1)) hin hout0 hh

set_option maxRecDepth 20000 in
set_option maxHeartbeats 4000000 in
theorem c_X9_push {k0 : K0} {G : Gx} {Qp : Option AV → Fx → Hp → Prop} (hM : MB (KM k0 0 0 Qp) G M_X9_push 2) (v1 : Int) (h : Hp)   {P : Hp → Prop} (hq : ∀ z : Hp, P z → Qp none FN z) (hh : OK (X9_push v1 h) P) : ATk (KM k0 0 0 Qp) FN 0 0 M_X9_push 0 [some (aR 1), some (aI v1), none] [] h := by
  unfold X9_push at hh
  refine A_blk hM.1 2 (lv1 := [some (aR 1), some (aI v1), some (aI 24)]) (s1 := []) (h1 := h) rfl ?_
  refine iter_ok (s := (24, h)) (Gp := fun z => ATk (KM k0 0 0 Qp) FN 0 0 M_X9_push 2 [some (aR 1), some (aI v1), some (aI z.1)] [] z.2) (E := fun z => ATk (KM k0 0 0 Qp) FN 0 0 M_X9_push 26 [none, none, none] [] z) (fun z P1 g1 g2 g3 => c_X9_push_l2 hM v1 z g2 g3 g1) (OK_bind hh) (fun x2 hh => ?_)
  exact A_retv hM.1 rfl rfl rfl (hq x2 hh)

set_option maxRecDepth 20000 in
set_option maxHeartbeats 4000000 in
theorem ct_X9_push {G : Gx} (v1 : Int) (h : Hp)   {P : Hp → Prop} (hh : OK (X9_push v1 h) P) : CT G yX9_push M_X9_push 2 0 0 FN h [aR 1, aI v1] (fun r F' h' => F' = FN ∧ r = none ∧ P h') :=
  CT.of (by decide +kernel) rfl (Nat.le_of_ble_eq_true rfl) k_X9_push fun k0 _ _ hM => c_X9_push hM v1 h (fun z hz => ⟨rfl, rfl, hz⟩) hh

theorem mi_X9_size : MIv yX9_size M_X9_size 0 := ⟨⟨(mem_GW 627 (by decide +kernel) rfl), (mem_GW 124 (by decide +kernel) rfl), by decide +kernel, by decide +kernel, by decide +kernel, by decide⟩, (mem_GW 625 (by decide +kernel) rfl), (mem_GW 626 (by decide +kernel) rfl)⟩
set_option maxRecDepth 20000 in
set_option maxHeartbeats 4000000 in
theorem c_X9_size {k0 : K0} {G : Gx} {Qp : Option AV → Fx → Hp → Prop} (hM : MB (KM k0 0 0 Qp) G M_X9_size 1) (h : Hp)   {P : Int → Prop} (hq : ∀ z : Int, P z → Qp (some (aI z)) FN h) (hh : OK (X9_size h) P) : ATk (KM k0 0 0 Qp) FN 0 0 M_X9_size 0 [some (aR 1)] [] h := by
  unfold X9_size at hh
  refine A_blk hM.1 2 (lv1 := [some (aR 1)]) (s1 := [aI (h 1 1)]) (h1 := h) rfl ?_
  exact A_reti hM.1 rfl rfl rfl (hq (h 1 1) hh)

set_option maxRecDepth 20000 in
set_option maxHeartbeats 4000000 in
theorem ct_X9_size {G : Gx} (h : Hp)   {P : Int → Prop} (hh : OK (X9_size h) P) : CT G yX9_size M_X9_size 1 0 0 FN h [aR 1] (fun r F' h' => F' = FN ∧ ∃ z, r = some (aI z) ∧ h' = h ∧ P z) :=
  CT.of (by decide +kernel) rfl (Nat.le_of_ble_eq_true rfl) k_X9_size fun k0 _ _ hM => c_X9_size hM h (fun z hz => ⟨rfl, z, rfl, rfl, hz⟩) hh

theorem mi_X11_feed : MIv yX11_feed M_X11_feed 5 := ⟨⟨(mem_GW 614 (by decide +kernel) rfl), (mem_GW 123 (by decide +kernel) rfl), by decide +kernel, by decide +kernel, by decide +kernel, by decide⟩, (mem_GW 612 (by decide +kernel) rfl), (mem_GW 613 (by decide +kernel) rfl)⟩
set_option maxRecDepth 20000 in
set_option maxHeartbeats 4000000 in
theorem c_X11_feed {k0 : K0} {G : Gx} {Qp : Option AV → Fx → Hp → Prop} (hM : MB (KM k0 0 0 Qp) G M_X11_feed 3) (v1 : Int) (v2 : Int) (v3 : Int) (v4 : Int) (v5 : Int) (h : Hp)   {P : (Int × Hp) → Prop} (hq : ∀ z : Int × Hp, P z → Qp (some (aI z.1)) FN z.2) (hh : OK (X11_feed v1 v2 v3 v4 v5 h) P) : ATk (KM k0 0 0 Qp) FN 0 0 M_X11_feed 0 [some (aR 0), some (aI v1), some (aI v2), some (aI v3), some (aI v4), some (aI v5)] [] h := by
  unfold X11_feed at hh
  refine A_blk hM.1 3 (lv1 := [some (aR 0), some (aI v1), some (aI v2), some (aI v3), some (aI v4), some (aI v5)]) (s1 := [aI 20, aR 1]) (h1 := h) rfl ?_
  refine A_callV hM rfl rfl (mem_GW 615 (by decide +kernel) rfl) mi_X9_hasRoomFor (As := [aI 20]) (rest := []) (ct_X9_hasRoomFor 20 h (OK_bind hh)) (by decide) ⟨Nat.zero_le _, Nat.zero_le _⟩ rfl rfl (Nat.le_of_ble_eq_true rfl) (by decide) rfl (by decide) rfl (fun r F' h' hq1 => ?_)
  obtain ⟨rfl, r1, rfl, e9, hh⟩ := hq1
  subst h'
  refine A_ifc hM.1 rfl rfl (fun hc => ?_) (fun hc => ?_)
  · replace hh := OK_t hh hc
    refine A_blk hM.1 3 (lv1 := [some (aR 0), some (aI v1), some (aI v2), some (aI v3), some (aI v4), some (aI v5)]) (s1 := [aI v1, aR 1]) (h1 := h) rfl ?_
    refine A_callV hM rfl rfl (mem_GW 619 (by decide +kernel) rfl) mi_X9_push (As := [aI v1]) (rest := []) (ct_X9_push v1 h (OK_bind hh)) (by decide) ⟨Nat.zero_le _, Nat.zero_le _⟩ rfl rfl (Nat.le_of_ble_eq_true rfl) (by decide) rfl (by decide) rfl (fun r F' h' hq1 => ?_)
    obtain ⟨rfl, rfl, hh⟩ := hq1
    obtain ⟨r2, rfl⟩ : ∃ z, z = h' := ⟨_, rfl⟩
    refine A_blk hM.1 3 (lv1 := [some (aR 0), some (aI v1), some (aI v2), some (aI v3), some (aI v4), some (aI v5)]) (s1 := [aI v2, aR 1]) (h1 := r2) rfl ?_
    refine A_callV hM rfl rfl (mem_GW 619 (by decide +kernel) rfl) mi_X9_push (As := [aI v2]) (rest := []) (ct_X9_push v2 r2 (OK_bind hh)) (by decide) ⟨Nat.zero_le _, Nat.zero_le _⟩ rfl rfl (Nat.le_of_ble_eq_true rfl) (by decide) rfl (by decide) rfl (fun r F' h' hq1 => ?_)
    obtain ⟨rfl, rfl, hh⟩ := hq1
    obtain ⟨r3, rfl⟩ : ∃ z, z = h' := ⟨_, rfl⟩
    refine A_blk hM.1 3 (lv1 := [some (aR 0), some (aI v1), some (aI v2), some (aI v3), some (aI v4), some (aI v5)]) (s1 := [aI v3, aR 1]) (h1 := r3) rfl ?_
    refine A_callV hM rfl rfl (mem_GW 619 (by decide +kernel) rfl) mi_X9_push (As := [aI v3]) (rest := []) (ct_X9_push v3 r3 (OK_bind hh)) (by decide) ⟨Nat.zero_le _, Nat.zero_le _⟩ rfl rfl (Nat.le_of_ble_eq_true rfl) (by decide) rfl (by decide) rfl (fun r F' h' hq1 => ?_)
    obtain ⟨rfl, rfl, hh⟩ := hq1
    obtain ⟨r4, rfl⟩ : ∃ z, z = h' := ⟨_, rfl⟩
    refine A_blk hM.1 3 (lv1 := [some (aR 0), some (aI v1), some (aI v2), some (aI v3), some (aI v4), some (aI v5)]) (s1 := [aI v4, aR 1]) (h1 := r4) rfl ?_
    refine A_callV hM rfl rfl (mem_GW 619 (by decide +kernel) rfl) mi_X9_push (As := [aI v4]) (rest := []) (ct_X9_push v4 r4 (OK_bind hh)) (by decide) ⟨Nat.zero_le _, Nat.zero_le _⟩ rfl rfl (Nat.le_of_ble_eq_true rfl) (by decide) rfl (by decide) rfl (fun r F' h' hq1 => ?_)
    obtain ⟨rfl, rfl, hh⟩ := hq1
    obtain ⟨r5, rfl⟩ : ∃ z, z = h' := ⟨_, rfl⟩
    refine A_blk hM.1 3 (lv1 := [some (aR 0), some (aI v1), some (aI v2), some (aI v3), some (aI v4), some (aI v5)]) (s1 := [aI v5, aR 1]) (h1 := r5) rfl ?_
    refine A_callV hM rfl rfl (mem_GW 619 (by decide +kernel) rfl) mi_X9_push (As := [aI v5]) (rest := []) (ct_X9_push v5 r5 (OK_bind hh)) (by decide) ⟨Nat.zero_le _, Nat.zero_le _⟩ rfl rfl (Nat.le_of_ble_eq_true rfl) (by decide) rfl (by decide) rfl (fun r F' h' hq1 => ?_)
    obtain ⟨rfl, rfl, hh⟩ := hq1
    obtain ⟨r6, rfl⟩ : ∃ z, z = h' := ⟨_, rfl⟩
    refine A_blk hM.1 2 (lv1 := [some (aR 0), some (aI v1), some (aI v2), some (aI v3), some (aI v4), some (aI v5)]) (s1 := [aR 1]) (h1 := r6) rfl ?_
    refine A_callV hM rfl rfl (mem_GW 624 (by decide +kernel) rfl) mi_X9_size (As := []) (rest := []) (ct_X9_size r6 (OK_bind hh)) (by decide) ⟨Nat.zero_le _, Nat.zero_le _⟩ rfl rfl (Nat.le_of_ble_eq_true rfl) (by decide) rfl (by decide) rfl (fun r F' h' hq1 => ?_)
    obtain ⟨rfl, r7, rfl, e9, hh⟩ := hq1
    subst h'
    exact A_reti hM.1 rfl rfl rfl (hq (r7, r6) hh)
  · replace hh := OK_f hh hc
    refine A_blk hM.1 1 (lv1 := [some (aR 0), some (aI v1), some (aI v2), some (aI v3), some (aI v4), some (aI v5)]) (s1 := [aI (-1)]) (h1 := h) rfl ?_
    exact A_reti hM.1 rfl rfl rfl (hq ((-1), h) hh)

set_option maxRecDepth 20000 in
set_option maxHeartbeats 4000000 in
theorem ct_X11_feed {G : Gx} (v1 : Int) (v2 : Int) (v3 : Int) (v4 : Int) (v5 : Int) (h : Hp)   {P : (Int × Hp) → Prop} (hh : OK (X11_feed v1 v2 v3 v4 v5 h) P) : CT G yX11_feed M_X11_feed 3 0 0 FN h [aR 0, aI v1, aI v2, aI v3, aI v4, aI v5] (fun r F' h' => F' = FN ∧ ∃ z, r = some (aI z.1) ∧ h' = z.2 ∧ P z) :=
  CT.of (by decide +kernel) rfl (Nat.le_of_ble_eq_true rfl) k_X11_feed fun k0 _ _ hM => c_X11_feed hM v1 v2 v3 v4 v5 h (fun z hz => ⟨rfl, z, rfl, rfl, hz⟩) hh

theorem mi_X7_isWork : MIv yX7_isWork M_X7_isWork 1 := ⟨⟨(mem_GW 635 (by decide +kernel) rfl), (mem_GW 125 (by decide +kernel) rfl), by decide +kernel, by decide +kernel, by decide +kernel, by decide⟩, (mem_GW 633 (by decide +kernel) rfl), (mem_GW 634 (by decide +kernel) rfl)⟩
set_option maxRecDepth 20000 in
set_option maxHeartbeats 4000000 in
theorem c_X7_isWork {k0 : K0} {G : Gx} {Qp : Option AV → Fx → Hp → Prop} (hM : MB (KM k0 0 0 Qp) G M_X7_isWork 1) (v1 : Int) (h : Hp)   {P : Int → Prop} (hq : ∀ z : Int, P z → Qp (some (aI z)) FN h) (hh : OK (X7_isWork v1 h) P) : ATk (KM k0 0 0 Qp) FN 0 0 M_X7_isWork 0 [some (aR 3), some (aI v1)] [] h := by
  unfold X7_isWork at hh
  refine A_blk hM.1 1 (lv1 := [some (aR 3), some (aI v1)]) (s1 := [aI v1]) (h1 := h) rfl ?_
  refine A_ifc hM.1 rfl rfl (fun hc => ?_) (fun hc => ?_)
  · replace hh := OK_t hh hc
    refine A_blk hM.1 1 (lv1 := [some (aR 3), some (aI v1)]) (s1 := [aI 0]) (h1 := h) rfl ?_
    exact A_retz hM.1 rfl rfl rfl (by decide) (hq 0 hh)
  · replace hh := OK_f hh hc
    refine A_blk hM.1 3 (lv1 := [some (aR 3), some (aI v1)]) (s1 := [aI (h 3 3), aI v1]) (h1 := h) rfl ?_
    refine A_icmp hM.1 rfl rfl (fun hc => ?_) (fun hc => ?_)
    · replace hh := OK_t hh hc
      refine A_blk hM.1 1 (lv1 := [some (aR 3), some (aI v1)]) (s1 := [aI 0]) (h1 := h) rfl ?_
      exact A_retz hM.1 rfl rfl rfl (by decide) (hq 0 hh)
    · replace hh := OK_f hh hc
      refine A_blk hM.1 1 (lv1 := [some (aR 3), some (aI v1)]) (s1 := [aI 1]) (h1 := h) rfl ?_
      refine A_go hM.1 rfl rfl ?_
      exact A_retz hM.1 rfl rfl rfl (by decide) (hq 1 hh)

set_option maxRecDepth 20000 in
set_option maxHeartbeats 4000000 in
theorem ct_X7_isWork {G : Gx} (v1 : Int) (h : Hp)   {P : Int → Prop} (hh : OK (X7_isWork v1 h) P) : CT G yX7_isWork M_X7_isWork 1 0 0 FN h [aR 3, aI v1] (fun r F' h' => F' = FN ∧ ∃ z, r = some (aI z) ∧ h' = h ∧ P z) :=
  CT.of (by decide +kernel) rfl (Nat.le_of_ble_eq_true rfl) k_X7_isWork fun k0 _ _ hM => c_X7_isWork hM v1 h (fun z hz => ⟨rfl, z, rfl, rfl, hz⟩) hh

theorem mi_X11_at : MIs yX11_at M_X11_at 2 := ⟨(mem_GW 643 (by decide +kernel) rfl), (mem_GW 123 (by decide +kernel) rfl), by decide +kernel, by decide +kernel, by decide +kernel, by decide⟩
theorem ms_X11_at : .static yX11_at ∈ GW := (mem_GW 642 (by decide +kernel) rfl)
set_option maxRecDepth 20000 in
set_option maxHeartbeats 4000000 in
theorem c_X11_at {k0 : K0} {G : Gx} {Qp : Option AV → Fx → Hp → Prop} (hM : MB (KM k0 0 0 Qp) G M_X11_at 1) (a : Nat) (n : Nat) (v1 : Int) (h : Hp)  (hk : kd a = 14) (hn : ln a = n) {P : Int → Prop} (hq : ∀ z : Int, P z → Qp (some (aI z)) FN h) (hh : OK (X11_at a n v1 h) P) : ATk (KM k0 0 0 Qp) FN 0 0 M_X11_at 0 [some (aR a), some (aI v1)] [] h := by
  unfold X11_at at hh
  refine A_blk hM.1 1 (lv1 := [some (aR a), some (aI v1)]) (s1 := [aI v1]) (h1 := h) rfl ?_
  refine A_ifc hM.1 rfl rfl (fun hc => ?_) (fun hc => ?_)
  · replace hh := OK_t hh hc
    refine A_blk hM.1 1 (lv1 := [some (aR a), some (aI v1)]) (s1 := [aI 0]) (h1 := h) rfl ?_
    exact A_reti hM.1 rfl rfl rfl (hq 0 hh)
  · replace hh := OK_f hh hc
    refine A_blk hM.1 2 (lv1 := [some (aR a), some (aI v1)]) (s1 := [aR a, aI v1]) (h1 := h) rfl ?_
    refine A_alen hM.1 rfl (Or.inl hk) hn (kd_in hk (by decide)) rfl ?_
    refine A_icmp hM.1 rfl rfl (fun hc => ?_) (fun hc => ?_)
    · replace hh := OK_t hh hc
      refine A_blk hM.1 1 (lv1 := [some (aR a), some (aI v1)]) (s1 := [aI 0]) (h1 := h) rfl ?_
      exact A_reti hM.1 rfl rfl rfl (hq 0 hh)
    · replace hh := OK_f hh hc
      refine A_blk hM.1 2 (lv1 := [some (aR a), some (aI v1)]) (s1 := [aI v1, aR a]) (h1 := h) rfl ?_
      obtain ⟨g1, hh⟩ := OK_g hh
      refine A_ald hM.1 rfl (Or.inl ⟨rfl, hk⟩) hn (kd_in hk (by decide)) rfl g1 ?_
      refine A_go hM.1 rfl rfl ?_
      exact A_reti hM.1 rfl rfl rfl (hq (h a ((w32 v1).toNat)) hh)

set_option maxRecDepth 20000 in
set_option maxHeartbeats 4000000 in
theorem ct_X11_at {G : Gx} (a : Nat) (n : Nat) (v1 : Int) (h : Hp)  (hk : kd a = 14) (hn : ln a = n) {P : Int → Prop} (hh : OK (X11_at a n v1 h) P) : CT G yX11_at M_X11_at 1 0 0 FN h [aR a, aI v1] (fun r F' h' => F' = FN ∧ ∃ z, r = some (aI z) ∧ h' = h ∧ P z) :=
  CT.of (by decide +kernel) rfl (Nat.le_of_ble_eq_true rfl) k_X11_at fun k0 _ _ hM => c_X11_at hM a n v1 h hk hn (fun z hz => ⟨rfl, z, rfl, rfl, hz⟩) hh

theorem mi_X7_isLeft : MIv yX7_isLeft M_X7_isLeft 1 := ⟨⟨(mem_GW 639 (by decide +kernel) rfl), (mem_GW 125 (by decide +kernel) rfl), by decide +kernel, by decide +kernel, by decide +kernel, by decide⟩, (mem_GW 637 (by decide +kernel) rfl), (mem_GW 638 (by decide +kernel) rfl)⟩
set_option maxRecDepth 20000 in
set_option maxHeartbeats 4000000 in
theorem c_X7_isLeft {k0 : K0} {G : Gx} {Qp : Option AV → Fx → Hp → Prop} (hM : MB (KM k0 0 0 Qp) G M_X7_isLeft 2) (v1 : Int) (h : Hp)   {P : Int → Prop} (hq : ∀ z : Int, P z → Qp (some (aI z)) FN h) (hh : OK (X7_isLeft v1 h) P) : ATk (KM k0 0 0 Qp) FN 0 0 M_X7_isLeft 0 [some (aR 3), some (aI v1)] [] h := by
  unfold X7_isLeft at hh
  refine A_blk hM.1 2 (lv1 := [some (aR 3), some (aI v1)]) (s1 := [aI v1, aR 3]) (h1 := h) rfl ?_
  refine A_callV hM rfl rfl (mem_GW 640 (by decide +kernel) rfl) mi_X7_isWork (As := [aI v1]) (rest := []) (ct_X7_isWork v1 h (OK_bind hh)) (by decide) ⟨Nat.zero_le _, Nat.zero_le _⟩ rfl rfl (Nat.le_of_ble_eq_true rfl) (by decide) rfl (by decide) rfl (fun r F' h' hq1 => ?_)
  obtain ⟨rfl, r1, rfl, e9, hh⟩ := hq1
  subst h'
  refine A_ifc hM.1 rfl rfl (fun hc => ?_) (fun hc => ?_)
  · replace hh := OK_t hh hc
    refine A_blk hM.1 1 (lv1 := [some (aR 3), some (aI v1)]) (s1 := [aI 0]) (h1 := h) rfl ?_
    exact A_retz hM.1 rfl rfl rfl (by decide) (hq 0 hh)
  · replace hh := OK_f hh hc
    refine A_blk hM.1 3 (lv1 := [some (aR 3), some (aI v1)]) (s1 := [aI v1, aR 8]) (h1 := h) rfl ?_
    refine A_callSN (host := "QuotedBooks") hM rfl rfl (mem_NW 641 (by decide +kernel) rfl) mi_X11_at ms_X11_at (As := [aR 8, aI v1]) (rest := []) (ct_X11_at 8 8 v1 h rfl rfl (OK_bind hh)) (by decide) ⟨Nat.zero_le _, Nat.zero_le _⟩ rfl rfl (Nat.le_of_ble_eq_true rfl) (fun r F' h' hq1 => ?_)
    obtain ⟨rfl, r2, rfl, e9, hh⟩ := hq1
    subst h'
    refine A_ifc hM.1 rfl rfl (fun hc => ?_) (fun hc => ?_)
    · replace hh := OK_t hh hc
      refine A_blk hM.1 1 (lv1 := [some (aR 3), some (aI v1)]) (s1 := [aI 0]) (h1 := h) rfl ?_
      exact A_retz hM.1 rfl rfl rfl (by decide) (hq 0 hh)
    · replace hh := OK_f hh hc
      refine A_blk hM.1 1 (lv1 := [some (aR 3), some (aI v1)]) (s1 := [aI 1]) (h1 := h) rfl ?_
      refine A_go hM.1 rfl rfl ?_
      exact A_retz hM.1 rfl rfl rfl (by decide) (hq 1 hh)

set_option maxRecDepth 20000 in
set_option maxHeartbeats 4000000 in
theorem ct_X7_isLeft {G : Gx} (v1 : Int) (h : Hp)   {P : Int → Prop} (hh : OK (X7_isLeft v1 h) P) : CT G yX7_isLeft M_X7_isLeft 2 0 0 FN h [aR 3, aI v1] (fun r F' h' => F' = FN ∧ ∃ z, r = some (aI z) ∧ h' = h ∧ P z) :=
  CT.of (by decide +kernel) rfl (Nat.le_of_ble_eq_true rfl) k_X7_isLeft fun k0 _ _ hM => c_X7_isLeft hM v1 h (fun z hz => ⟨rfl, z, rfl, rfl, hz⟩) hh

theorem mi_X9_holds : MIv yX9_holds M_X9_holds 2 := ⟨⟨(mem_GW 647 (by decide +kernel) rfl), (mem_GW 124 (by decide +kernel) rfl), by decide +kernel, by decide +kernel, by decide +kernel, by decide⟩, (mem_GW 645 (by decide +kernel) rfl), (mem_GW 646 (by decide +kernel) rfl)⟩
set_option maxRecDepth 20000 in
set_option maxHeartbeats 4000000 in
theorem c_X9_holds {k0 : K0} {G : Gx} {Qp : Option AV → Fx → Hp → Prop} (hM : MB (KM k0 0 0 Qp) G M_X9_holds 1) (v1 : Int) (v2 : Int) (h : Hp)   {P : Int → Prop} (hq : ∀ z : Int, P z → Qp (some (aI z)) FN h) (hh : OK (X9_holds v1 v2 h) P) : ATk (KM k0 0 0 Qp) FN 0 0 M_X9_holds 0 [some (aR 1), some (aI v1), some (aI v2)] [] h := by
  unfold X9_holds at hh
  refine A_blk hM.1 1 (lv1 := [some (aR 1), some (aI v1), some (aI v2)]) (s1 := [aI v1]) (h1 := h) rfl ?_
  refine A_ifc hM.1 rfl rfl (fun hc => ?_) (fun hc => ?_)
  · replace hh := OK_t hh hc
    refine A_blk hM.1 1 (lv1 := [some (aR 1), some (aI v1), some (aI v2)]) (s1 := [aI 0]) (h1 := h) rfl ?_
    exact A_retz hM.1 rfl rfl rfl (by decide) (hq 0 hh)
  · replace hh := OK_f hh hc
    refine A_blk hM.1 9 (lv1 := [some (aR 1), some (aI v1), some (aI v2)]) (s1 := [aI (cmp64 ((w32 v1) * (w32 v2)) (w32 (h 1 1)))]) (h1 := h) rfl ?_
    refine A_ifc hM.1 rfl rfl (fun hc => ?_) (fun hc => ?_)
    · replace hh := OK_t hh hc
      refine A_blk hM.1 1 (lv1 := [some (aR 1), some (aI v1), some (aI v2)]) (s1 := [aI 0]) (h1 := h) rfl ?_
      exact A_retz hM.1 rfl rfl rfl (by decide) (hq 0 hh)
    · replace hh := OK_f hh hc
      refine A_blk hM.1 1 (lv1 := [some (aR 1), some (aI v1), some (aI v2)]) (s1 := [aI 1]) (h1 := h) rfl ?_
      refine A_go hM.1 rfl rfl ?_
      exact A_retz hM.1 rfl rfl rfl (by decide) (hq 1 hh)

set_option maxRecDepth 20000 in
set_option maxHeartbeats 4000000 in
theorem ct_X9_holds {G : Gx} (v1 : Int) (v2 : Int) (h : Hp)   {P : Int → Prop} (hh : OK (X9_holds v1 v2 h) P) : CT G yX9_holds M_X9_holds 1 0 0 FN h [aR 1, aI v1, aI v2] (fun r F' h' => F' = FN ∧ ∃ z, r = some (aI z) ∧ h' = h ∧ P z) :=
  CT.of (by decide +kernel) rfl (Nat.le_of_ble_eq_true rfl) k_X9_holds fun k0 _ _ hM => c_X9_holds hM v1 v2 h (fun z hz => ⟨rfl, z, rfl, rfl, hz⟩) hh

theorem mi_X9_byteAt : MIv yX9_byteAt M_X9_byteAt 1 := ⟨⟨(mem_GW 655 (by decide +kernel) rfl), (mem_GW 124 (by decide +kernel) rfl), by decide +kernel, by decide +kernel, by decide +kernel, by decide⟩, (mem_GW 653 (by decide +kernel) rfl), (mem_GW 654 (by decide +kernel) rfl)⟩
set_option maxRecDepth 20000 in
set_option maxHeartbeats 4000000 in
theorem c_X9_byteAt {k0 : K0} {G : Gx} {Qp : Option AV → Fx → Hp → Prop} (hM : MB (KM k0 0 0 Qp) G M_X9_byteAt 1) (v1 : Int) (h : Hp)   {P : Int → Prop} (hq : ∀ z : Int, P z → Qp (some (aI z)) FN h) (hh : OK (X9_byteAt v1 h) P) : ATk (KM k0 0 0 Qp) FN 0 0 M_X9_byteAt 0 [some (aR 1), some (aI v1)] [] h := by
  unfold X9_byteAt at hh
  refine A_blk hM.1 1 (lv1 := [some (aR 1), some (aI v1)]) (s1 := [aI v1]) (h1 := h) rfl ?_
  refine A_ifc hM.1 rfl rfl (fun hc => ?_) (fun hc => ?_)
  · replace hh := OK_t hh hc
    refine A_blk hM.1 1 (lv1 := [some (aR 1), some (aI v1)]) (s1 := [aI (-1)]) (h1 := h) rfl ?_
    exact A_reti hM.1 rfl rfl rfl (hq (-1) hh)
  · replace hh := OK_f hh hc
    refine A_blk hM.1 3 (lv1 := [some (aR 1), some (aI v1)]) (s1 := [aI (h 1 1), aI v1]) (h1 := h) rfl ?_
    refine A_icmp hM.1 rfl rfl (fun hc => ?_) (fun hc => ?_)
    · replace hh := OK_t hh hc
      refine A_blk hM.1 1 (lv1 := [some (aR 1), some (aI v1)]) (s1 := [aI (-1)]) (h1 := h) rfl ?_
      exact A_reti hM.1 rfl rfl rfl (hq (-1) hh)
    · replace hh := OK_f hh hc
      refine A_blk hM.1 2 (lv1 := [some (aR 1), some (aI v1)]) (s1 := [aI 200, aI v1]) (h1 := h) rfl ?_
      refine A_icmp hM.1 rfl rfl (fun hc => ?_) (fun hc => ?_)
      · replace hh := OK_t hh hc
        refine A_blk hM.1 1 (lv1 := [some (aR 1), some (aI v1)]) (s1 := [aI (-1)]) (h1 := h) rfl ?_
        exact A_reti hM.1 rfl rfl rfl (hq (-1) hh)
      · replace hh := OK_f hh hc
        refine A_blk hM.1 3 (lv1 := [some (aR 1), some (aI v1)]) (s1 := [aI v1, aR 2]) (h1 := h) rfl ?_
        obtain ⟨g1, hh⟩ := OK_g hh
        refine A_ald hM.1 rfl (Or.inl ⟨rfl, rfl⟩) rfl (by decide) rfl g1 ?_
        refine A_go hM.1 rfl rfl ?_
        exact A_reti hM.1 rfl rfl rfl (hq (h 2 ((w32 v1).toNat)) hh)

set_option maxRecDepth 20000 in
set_option maxHeartbeats 4000000 in
theorem ct_X9_byteAt {G : Gx} (v1 : Int) (h : Hp)   {P : Int → Prop} (hh : OK (X9_byteAt v1 h) P) : CT G yX9_byteAt M_X9_byteAt 1 0 0 FN h [aR 1, aI v1] (fun r F' h' => F' = FN ∧ ∃ z, r = some (aI z) ∧ h' = h ∧ P z) :=
  CT.of (by decide +kernel) rfl (Nat.le_of_ble_eq_true rfl) k_X9_byteAt fun k0 _ _ hM => c_X9_byteAt hM v1 h (fun z hz => ⟨rfl, z, rfl, rfl, hz⟩) hh

theorem mi_X7_tellWords : MIv yX7_tellWords M_X7_tellWords 3 := ⟨⟨(mem_GW 651 (by decide +kernel) rfl), (mem_GW 125 (by decide +kernel) rfl), by decide +kernel, by decide +kernel, by decide +kernel, by decide⟩, (mem_GW 649 (by decide +kernel) rfl), (mem_GW 650 (by decide +kernel) rfl)⟩
set_option maxRecDepth 20000 in
set_option maxHeartbeats 4000000 in
theorem c_X7_tellWords_l4 {k0 : K0} {G : Gx} {Qp : Option AV → Fx → Hp → Prop} (hM : MB (KM k0 0 0 Qp) G M_X7_tellWords 2) (v1 : Int) (v3 : Int) (x : Int × Int × Hp)   {P : ((Int × Int × Hp) ⊕ ((Hp) ⊕ (Hp))) → Prop} (hin : ∀ y : Int × Int × Hp, P (.inl y) → ATk (KM k0 0 0 Qp) FN 0 0 M_X7_tellWords 4 [some (aR 3), some (aI v1), some (aR 1), some (aI v3), some (aI y.1), some (aI y.2.1), none, none] [] y.2.2) (hout0 : ∀ y : Hp, P (.inr (.inl y)) → ATk (KM k0 0 0 Qp) FN 0 0 M_X7_tellWords 37 [none, none, none, none, none, none, none, none] [] y) (hout1 : ∀ y : Hp, P (.inr (.inr y)) → ATk (KM k0 0 0 Qp) FN 0 0 M_X7_tellWords 61 [some (aR 3), some (aI v1), none, some (aI v3), none, none, none, none] [] y) (hh : OK (X7_tellWords_l4 v1 v3 x) P) : ATk (KM k0 0 0 Qp) FN 0 0 M_X7_tellWords 4 [some (aR 3), some (aI v1), some (aR 1), some (aI v3), some (aI x.1), some (aI x.2.1), none, none] [] x.2.2 := by
  unfold X7_tellWords_l4 at hh
  refine A_blk hM.1 2 (lv1 := [some (aR 3), some (aI v1), some (aR 1), some (aI v3), some (aI x.1), some (aI x.2.1), none, none]) (s1 := [aI v3, aI x.2.1]) (h1 := x.2.2) rfl ?_
  refine A_icmp hM.1 rfl rfl (fun hc => ?_) (fun hc => ?_)
  · replace hh := OK_t hh hc
    refine A_mask [true, true, false, true, false, false, true, true] (lv1 := [some (aR 3), some (aI v1), none, some (aI v3), none, none, none, none]) rfl ?_
    exact hout1 x.2.2 hh
  · replace hh := OK_f hh hc
    refine A_blk hM.1 2 (lv1 := [some (aR 3), some (aI v1), some (aR 1), some (aI v3), some (aI x.1), some (aI x.2.1), none, none]) (s1 := [aI 40, aI x.2.1]) (h1 := x.2.2) rfl ?_
    refine A_icmp hM.1 rfl rfl (fun hc => ?_) (fun hc => ?_)
    · replace hh := OK_t hh hc
      refine A_mask [true, true, false, true, false, false, true, true] (lv1 := [some (aR 3), some (aI v1), none, some (aI v3), none, none, none, none]) rfl ?_
      exact hout1 x.2.2 hh
    · replace hh := OK_f hh hc
      refine A_blk hM.1 4 (lv1 := [some (aR 3), some (aI v1), some (aR 1), some (aI v3), some (aI x.1), some (aI x.2.1), none, none]) (s1 := [aI (2 * x.2.1), aR 1]) (h1 := x.2.2) rfl ?_
      refine A_callV hM rfl rfl (mem_GW 652 (by decide +kernel) rfl) mi_X9_byteAt (As := [aI (2 * x.2.1)]) (rest := []) (ct_X9_byteAt (2 * x.2.1) x.2.2 (OK_bind hh)) (by decide) ⟨Nat.zero_le _, Nat.zero_le _⟩ rfl rfl (Nat.le_of_ble_eq_true rfl) (by decide) rfl (by decide) rfl (fun r F' h' hq1 => ?_)
      obtain ⟨rfl, r1, rfl, e9, hh⟩ := hq1
      subst h'
      refine A_blk hM.1 7 (lv1 := [some (aR 3), some (aI v1), some (aR 1), some (aI v3), some (aI x.1), some (aI x.2.1), some (aI r1), none]) (s1 := [aI ((2 * x.2.1) + 1), aR 1]) (h1 := x.2.2) rfl ?_
      refine A_callV hM rfl rfl (mem_GW 652 (by decide +kernel) rfl) mi_X9_byteAt (As := [aI ((2 * x.2.1) + 1)]) (rest := []) (ct_X9_byteAt ((2 * x.2.1) + 1) x.2.2 (OK_bind hh)) (by decide) ⟨Nat.zero_le _, Nat.zero_le _⟩ rfl rfl (Nat.le_of_ble_eq_true rfl) (by decide) rfl (by decide) rfl (fun r F' h' hq1 => ?_)
      obtain ⟨rfl, r2, rfl, e9, hh⟩ := hq1
      subst h'
      refine A_blk hM.1 4 (lv1 := [some (aR 3), some (aI v1), some (aR 1), some (aI v3), some (aI x.1), some (aI x.2.1), some (aI r1), some (aI r2)]) (s1 := [aI 63, aI 0, aI r1]) (h1 := x.2.2) rfl ?_
      refine A_callSN (host := "QuotedBooks") hM rfl rfl (mem_NW 656 (by decide +kernel) rfl) mi_X11_within ms_X11_within (As := [aI r1, aI 0, aI 63]) (rest := []) (ct_X11_within r1 0 63 x.2.2 (OK_bind hh)) (by decide) ⟨Nat.zero_le _, Nat.zero_le _⟩ rfl rfl (Nat.le_of_ble_eq_true rfl) (fun r F' h' hq1 => ?_)
      obtain ⟨rfl, r3, rfl, e9, hh⟩ := hq1
      subst h'
      refine A_ifc hM.1 rfl rfl (fun hc => ?_) (fun hc => ?_)
      · replace hh := OK_t hh hc
        refine A_mask [false, false, false, false, false, false, false, false] (lv1 := [none, none, none, none, none, none, none, none]) rfl ?_
        exact hout0 x.2.2 hh
      · replace hh := OK_f hh hc
        refine A_blk hM.1 5 (lv1 := [some (aR 3), some (aI v1), some (aR 1), some (aI v3), some (aI x.1), some (aI x.2.1), some (aI r1), some (aI r2)]) (s1 := [aI v1, aR 7, aI x.1, aI r2]) (h1 := x.2.2) rfl ?_
        refine A_callSN (host := "QuotedBooks") hM rfl rfl (mem_NW 641 (by decide +kernel) rfl) mi_X11_at ms_X11_at (As := [aR 7, aI v1]) (rest := [aI x.1, aI r2]) (ct_X11_at 7 8 v1 x.2.2 rfl rfl (OK_bind hh)) (by decide) ⟨Nat.zero_le _, Nat.zero_le _⟩ rfl rfl (Nat.le_of_ble_eq_true rfl) (fun r F' h' hq1 => ?_)
        obtain ⟨rfl, r4, rfl, e9, hh⟩ := hq1
        subst h'
        refine A_callSN (host := "QuotedBooks") hM rfl rfl (mem_NW 656 (by decide +kernel) rfl) mi_X11_within ms_X11_within (As := [aI r2, aI x.1, aI r4]) (rest := []) (ct_X11_within r2 x.1 r4 x.2.2 (OK_bind hh)) (by decide) ⟨Nat.zero_le _, Nat.zero_le _⟩ rfl rfl (Nat.le_of_ble_eq_true rfl) (fun r F' h' hq1 => ?_)
        obtain ⟨rfl, r5, rfl, e9, hh⟩ := hq1
        subst h'
        refine A_ifc hM.1 rfl rfl (fun hc => ?_) (fun hc => ?_)
        · replace hh := OK_t hh hc
          refine A_blk hM.1 8 (lv1 := [some (aR 3), some (aI v1), some (aR 1), some (aI v3), some (aI x.1), some (aI x.2.1), some (aI r1), some (aI r2)]) (s1 := [aI r1, aI ((v1 * 40) + x.2.1), aR 9]) (h1 := x.2.2) rfl ?_
          refine A_callSN (host := "QuotedBooks") hM rfl rfl (mem_NW 583 (by decide +kernel) rfl) mi_X11_put ms_X11_put (As := [aR 9, aI ((v1 * 40) + x.2.1), aI r1]) (rest := []) (ct_X11_put 9 320 ((v1 * 40) + x.2.1) r1 x.2.2 rfl rfl (OK_bind hh)) (by decide) ⟨Nat.zero_le _, Nat.zero_le _⟩ rfl rfl (Nat.le_of_ble_eq_true rfl) (fun r F' h' hq1 => ?_)
          obtain ⟨rfl, rfl, hh⟩ := hq1
          obtain ⟨r6, rfl⟩ : ∃ z, z = h' := ⟨_, rfl⟩
          refine A_blk hM.1 8 (lv1 := [some (aR 3), some (aI v1), some (aR 1), some (aI v3), some (aI x.1), some (aI x.2.1), some (aI r1), some (aI r2)]) (s1 := [aI r2, aI ((v1 * 40) + x.2.1), aR 10]) (h1 := r6) rfl ?_
          refine A_callSN (host := "QuotedBooks") hM rfl rfl (mem_NW 583 (by decide +kernel) rfl) mi_X11_put ms_X11_put (As := [aR 10, aI ((v1 * 40) + x.2.1), aI r2]) (rest := []) (ct_X11_put 10 320 ((v1 * 40) + x.2.1) r2 r6 rfl rfl (OK_bind hh)) (by decide) ⟨Nat.zero_le _, Nat.zero_le _⟩ rfl rfl (Nat.le_of_ble_eq_true rfl) (fun r F' h' hq1 => ?_)
          obtain ⟨rfl, rfl, hh⟩ := hq1
          obtain ⟨r7, rfl⟩ : ∃ z, z = h' := ⟨_, rfl⟩
          refine A_blk hM.1 3 (lv1 := [some (aR 3), some (aI v1), some (aR 1), some (aI v3), some (aI r2), some (aI (x.2.1 + 1)), some (aI r1), some (aI r2)]) (s1 := []) (h1 := r7) rfl ?_
          refine A_go hM.1 rfl rfl ?_
          refine A_mask [true, true, true, true, true, true, false, false] (lv1 := [some (aR 3), some (aI v1), some (aR 1), some (aI v3), some (aI r2), some (aI (x.2.1 + 1)), none, none]) rfl ?_
          exact hin (r2, x.2.1 + 1, r7) hh
        · replace hh := OK_f hh hc
          refine A_mask [false, false, false, false, false, false, false, false] (lv1 := [none, none, none, none, none, none, none, none]) rfl ?_
          exact hout0 x.2.2 hh

set_option maxRecDepth 20000 in
set_option maxHeartbeats 4000000 in
theorem c_X7_tellWords {k0 : K0} {G : Gx} {Qp : Option AV → Fx → Hp → Prop} (hM : MB (KM k0 0 0 Qp) G M_X7_tellWords 2) (v1 : Int) (v3 : Int) (h : Hp)   {P : (Int × Hp) → Prop} (hq : ∀ z : Int × Hp, P z → Qp (some (aI z.1)) FN z.2) (hh : OK (X7_tellWords v1 v3 h) P) : ATk (KM k0 0 0 Qp) FN 0 0 M_X7_tellWords 0 [some (aR 3), some (aI v1), some (aR 1), some (aI v3), none, none, none, none] [] h := by
  unfold X7_tellWords at hh
  refine A_blk hM.1 4 (lv1 := [some (aR 3), some (aI v1), some (aR 1), some (aI v3), some (aI 1), some (aI 0), none, none]) (s1 := []) (h1 := h) rfl ?_
  refine iter_ok (s := (1, 0, h)) (Gp := fun z => ATk (KM k0 0 0 Qp) FN 0 0 M_X7_tellWords 4 [some (aR 3), some (aI v1), some (aR 1), some (aI v3), some (aI z.1), some (aI z.2.1), none, none] [] z.2.2) (E := fun z => (∀ y, z = (.inl y) → ATk (KM k0 0 0 Qp) FN 0 0 M_X7_tellWords 37 [none, none, none, none, none, none, none, none] [] y) ∧ (∀ y, z = (.inr y) → ATk (KM k0 0 0 Qp) FN 0 0 M_X7_tellWords 61 [some (aR 3), some (aI v1), none, some (aI v3), none, none, none, none] [] y)) (fun z P1 g1 g2 g3 => c_X7_tellWords_l4 hM v1 v3 z g2 (fun y hy => (g3 (.inl y) hy).1 y rfl) (fun y hy => (g3 (.inr y) hy).2 y rfl) g1) (OK_bind hh) (fun x8 hh => ?_)
  refine ⟨fun y e => ?_, fun y e => ?_⟩
  · obtain ⟨y9, rfl⟩ : ∃ z, z = y := ⟨_, rfl⟩
    subst e
    refine A_blk hM.1 1 (lv1 := [none, none, none, none, none, none, none, none]) (s1 := [aI 0]) (h1 := y9) rfl ?_
    exact A_retz hM.1 rfl rfl rfl (by decide) (hq (0, y9) hh)
  · obtain ⟨y10, rfl⟩ : ∃ z, z = y := ⟨_, rfl⟩
    subst e
    refine A_blk hM.1 4 (lv1 := [some (aR 3), some (aI v1), none, some (aI v3), none, none, none, none]) (s1 := [aI v3, aI v1, aR 8]) (h1 := y10) rfl ?_
    refine A_callSN (host := "QuotedBooks") hM rfl rfl (mem_NW 583 (by decide +kernel) rfl) mi_X11_put ms_X11_put (As := [aR 8, aI v1, aI v3]) (rest := []) (ct_X11_put 8 8 v1 v3 y10 rfl rfl (OK_bind hh)) (by decide) ⟨Nat.zero_le _, Nat.zero_le _⟩ rfl rfl (Nat.le_of_ble_eq_true rfl) (fun r F' h' hq1 => ?_)
    obtain ⟨rfl, rfl, hh⟩ := hq1
    obtain ⟨r11, rfl⟩ : ∃ z, z = h' := ⟨_, rfl⟩
    refine A_blk hM.1 1 (lv1 := [some (aR 3), some (aI v1), none, some (aI v3), none, none, none, none]) (s1 := [aI 1]) (h1 := r11) rfl ?_
    exact A_retz hM.1 rfl rfl rfl (by decide) (hq (1, r11) hh)

set_option maxRecDepth 20000 in
set_option maxHeartbeats 4000000 in
theorem ct_X7_tellWords {G : Gx} (v1 : Int) (v3 : Int) (h : Hp)   {P : (Int × Hp) → Prop} (hh : OK (X7_tellWords v1 v3 h) P) : CT G yX7_tellWords M_X7_tellWords 2 0 0 FN h [aR 3, aI v1, aR 1, aI v3] (fun r F' h' => F' = FN ∧ ∃ z, r = some (aI z.1) ∧ h' = z.2 ∧ P z) :=
  CT.of (by decide +kernel) rfl (Nat.le_of_ble_eq_true rfl) k_X7_tellWords fun k0 _ _ hM => c_X7_tellWords hM v1 v3 h (fun z hz => ⟨rfl, z, rfl, rfl, hz⟩) hh

theorem mi_X9_clear : MIv yX9_clear M_X9_clear 0 := ⟨⟨(mem_GW 660 (by decide +kernel) rfl), (mem_GW 124 (by decide +kernel) rfl), by decide +kernel, by decide +kernel, by decide +kernel, by decide⟩, (mem_GW 658 (by decide +kernel) rfl), (mem_GW 659 (by decide +kernel) rfl)⟩
set_option maxRecDepth 20000 in
set_option maxHeartbeats 4000000 in
theorem c_X9_clear {k0 : K0} {G : Gx} {Qp : Option AV → Fx → Hp → Prop} (hM : MB (KM k0 0 0 Qp) G M_X9_clear 1) (h : Hp)   {P : Hp → Prop} (hq : ∀ z : Hp, P z → Qp none FN z) (hh : OK (X9_clear h) P) : ATk (KM k0 0 0 Qp) FN 0 0 M_X9_clear 0 [some (aR 1)] [] h := by
  unfold X9_clear at hh
  refine A_blk hM.1 3 (lv1 := [some (aR 1)]) (s1 := []) (h1 := setH h 1 1 0) rfl ?_
  exact A_retv hM.1 rfl rfl rfl (hq (setH h 1 1 0) hh)

set_option maxRecDepth 20000 in
set_option maxHeartbeats 4000000 in
theorem ct_X9_clear {G : Gx} (h : Hp)   {P : Hp → Prop} (hh : OK (X9_clear h) P) : CT G yX9_clear M_X9_clear 1 0 0 FN h [aR 1] (fun r F' h' => F' = FN ∧ r = none ∧ P h') :=
  CT.of (by decide +kernel) rfl (Nat.le_of_ble_eq_true rfl) k_X9_clear fun k0 _ _ hM => c_X9_clear hM h (fun z hz => ⟨rfl, rfl, hz⟩) hh

theorem mi_X11_left : MIv yX11_left M_X11_left 2 := ⟨⟨(mem_GW 631 (by decide +kernel) rfl), (mem_GW 123 (by decide +kernel) rfl), by decide +kernel, by decide +kernel, by decide +kernel, by decide⟩, (mem_GW 629 (by decide +kernel) rfl), (mem_GW 630 (by decide +kernel) rfl)⟩
set_option maxRecDepth 20000 in
set_option maxHeartbeats 4000000 in
theorem c_X11_left {k0 : K0} {G : Gx} {Qp : Option AV → Fx → Hp → Prop} (hM : MB (KM k0 0 0 Qp) G M_X11_left 3) (v1 : Int) (v2 : Int) (h : Hp)   {P : (Int × Hp) → Prop} (hq : ∀ z : Int × Hp, P z → Qp (some (aI z.1)) FN z.2) (hh : OK (X11_left v1 v2 h) P) : ATk (KM k0 0 0 Qp) FN 0 0 M_X11_left 0 [some (aR 0), some (aI v1), some (aI v2), none] [] h := by
  unfold X11_left at hh
  refine A_blk hM.1 3 (lv1 := [some (aR 0), some (aI v1), some (aI v2), none]) (s1 := [aI v1, aR 3]) (h1 := h) rfl ?_
  refine A_callV hM rfl rfl (mem_GW 632 (by decide +kernel) rfl) mi_X7_isWork (As := [aI v1]) (rest := []) (ct_X7_isWork v1 h (OK_bind hh)) (by decide) ⟨Nat.zero_le _, Nat.zero_le _⟩ rfl rfl (Nat.le_of_ble_eq_true rfl) (by decide) rfl (by decide) rfl (fun r F' h' hq1 => ?_)
  obtain ⟨rfl, r1, rfl, e9, hh⟩ := hq1
  subst h'
  refine A_ifc hM.1 rfl rfl (fun hc => ?_) (fun hc => ?_)
  · replace hh := OK_t hh hc
    refine A_blk hM.1 1 (lv1 := [some (aR 0), some (aI v1), some (aI v2), none]) (s1 := [aI 0]) (h1 := h) rfl ?_
    exact A_retz hM.1 rfl rfl rfl (by decide) (hq (0, h) hh)
  · replace hh := OK_f hh hc
    refine A_blk hM.1 3 (lv1 := [some (aR 0), some (aI v1), some (aI v2), none]) (s1 := [aI v1, aR 3]) (h1 := h) rfl ?_
    refine A_callV hM rfl rfl (mem_GW 636 (by decide +kernel) rfl) mi_X7_isLeft (As := [aI v1]) (rest := []) (ct_X7_isLeft v1 h (OK_bind hh)) (by decide) ⟨Nat.zero_le _, Nat.zero_le _⟩ rfl rfl (Nat.le_of_ble_eq_true rfl) (by decide) rfl (by decide) rfl (fun r F' h' hq1 => ?_)
    obtain ⟨rfl, r2, rfl, e9, hh⟩ := hq1
    subst h'
    refine A_ifc hM.1 rfl rfl (fun hc => ?_) (fun hc => ?_)
    · replace hh := OK_t hh hc
      refine A_blk hM.1 1 (lv1 := [some (aR 0), some (aI v1), some (aI v2), none]) (s1 := [aI 0]) (h1 := h) rfl ?_
      exact A_retz hM.1 rfl rfl rfl (by decide) (hq (0, h) hh)
    · replace hh := OK_f hh hc
      refine A_blk hM.1 3 (lv1 := [some (aR 0), some (aI v1), some (aI v2), none]) (s1 := [aI 40, aI 1, aI v2]) (h1 := h) rfl ?_
      refine A_callS hM rfl rfl (mem_GW 576 (by decide +kernel) rfl) mi_X11_within ms_X11_within (As := [aI v2, aI 1, aI 40]) (rest := []) (ct_X11_within v2 1 40 h (OK_bind hh)) (by decide) ⟨Nat.zero_le _, Nat.zero_le _⟩ rfl rfl (Nat.le_of_ble_eq_true rfl) (fun r F' h' hq1 => ?_)
      obtain ⟨rfl, r3, rfl, e9, hh⟩ := hq1
      subst h'
      refine A_ifc hM.1 rfl rfl (fun hc => ?_) (fun hc => ?_)
      · replace hh := OK_t hh hc
        refine A_blk hM.1 1 (lv1 := [some (aR 0), some (aI v1), some (aI v2), none]) (s1 := [aI 0]) (h1 := h) rfl ?_
        exact A_retz hM.1 rfl rfl rfl (by decide) (hq (0, h) hh)
      · replace hh := OK_f hh hc
        refine A_blk hM.1 4 (lv1 := [some (aR 0), some (aI v1), some (aI v2), none]) (s1 := [aI 2, aI v2, aR 1]) (h1 := h) rfl ?_
        refine A_callV hM rfl rfl (mem_GW 644 (by decide +kernel) rfl) mi_X9_holds (As := [aI v2, aI 2]) (rest := []) (ct_X9_holds v2 2 h (OK_bind hh)) (by decide) ⟨Nat.zero_le _, Nat.zero_le _⟩ rfl rfl (Nat.le_of_ble_eq_true rfl) (by decide) rfl (by decide) rfl (fun r F' h' hq1 => ?_)
        obtain ⟨rfl, r4, rfl, e9, hh⟩ := hq1
        subst h'
        refine A_ifc hM.1 rfl rfl (fun hc => ?_) (fun hc => ?_)
        · replace hh := OK_t hh hc
          refine A_blk hM.1 6 (lv1 := [some (aR 0), some (aI v1), some (aI v2), none]) (s1 := [aI v2, aR 1, aI v1, aR 3]) (h1 := h) rfl ?_
          refine A_callV hM rfl rfl (mem_GW 648 (by decide +kernel) rfl) mi_X7_tellWords (As := [aI v1, aR 1, aI v2]) (rest := []) (ct_X7_tellWords v1 v2 h (OK_bind hh)) (by decide) ⟨Nat.zero_le _, Nat.zero_le _⟩ rfl rfl (Nat.le_of_ble_eq_true rfl) (by decide) rfl (by decide) rfl (fun r F' h' hq1 => ?_)
          obtain ⟨rfl, r5, rfl, e9, hh⟩ := hq1
          subst h'
          refine A_blk hM.1 3 (lv1 := [some (aR 0), some (aI v1), some (aI v2), some (aI r5.1)]) (s1 := [aR 1]) (h1 := r5.2) rfl ?_
          refine A_callV hM rfl rfl (mem_GW 657 (by decide +kernel) rfl) mi_X9_clear (As := []) (rest := []) (ct_X9_clear r5.2 (OK_bind hh)) (by decide) ⟨Nat.zero_le _, Nat.zero_le _⟩ rfl rfl (Nat.le_of_ble_eq_true rfl) (by decide) rfl (by decide) rfl (fun r F' h' hq1 => ?_)
          obtain ⟨rfl, rfl, hh⟩ := hq1
          obtain ⟨r6, rfl⟩ : ∃ z, z = h' := ⟨_, rfl⟩
          refine A_blk hM.1 1 (lv1 := [some (aR 0), some (aI v1), some (aI v2), some (aI r5.1)]) (s1 := [aI r5.1]) (h1 := r6) rfl ?_
          obtain ⟨hz7, hh⟩ := OK_g hh
          exact A_retz hM.1 rfl rfl rfl hz7 (hq (r5.1, r6) hh)
        · replace hh := OK_f hh hc
          refine A_blk hM.1 1 (lv1 := [some (aR 0), some (aI v1), some (aI v2), none]) (s1 := [aI 0]) (h1 := h) rfl ?_
          exact A_retz hM.1 rfl rfl rfl (by decide) (hq (0, h) hh)

set_option maxRecDepth 20000 in
set_option maxHeartbeats 4000000 in
theorem ct_X11_left {G : Gx} (v1 : Int) (v2 : Int) (h : Hp)   {P : (Int × Hp) → Prop} (hh : OK (X11_left v1 v2 h) P) : CT G yX11_left M_X11_left 3 0 0 FN h [aR 0, aI v1, aI v2] (fun r F' h' => F' = FN ∧ ∃ z, r = some (aI z.1) ∧ h' = z.2 ∧ P z) :=
  CT.of (by decide +kernel) rfl (Nat.le_of_ble_eq_true rfl) k_X11_left fun k0 _ _ hM => c_X11_left hM v1 v2 h (fun z hz => ⟨rfl, z, rfl, rfl, hz⟩) hh

theorem mi_X7_isWriter : MIv yX7_isWriter M_X7_isWriter 1 := ⟨⟨(mem_GW 668 (by decide +kernel) rfl), (mem_GW 125 (by decide +kernel) rfl), by decide +kernel, by decide +kernel, by decide +kernel, by decide⟩, (mem_GW 666 (by decide +kernel) rfl), (mem_GW 667 (by decide +kernel) rfl)⟩
set_option maxRecDepth 20000 in
set_option maxHeartbeats 4000000 in
theorem c_X7_isWriter {k0 : K0} {G : Gx} {Qp : Option AV → Fx → Hp → Prop} (hM : MB (KM k0 0 0 Qp) G M_X7_isWriter 1) (v1 : Int) (h : Hp)   {P : Int → Prop} (hq : ∀ z : Int, P z → Qp (some (aI z)) FN h) (hh : OK (X7_isWriter v1 h) P) : ATk (KM k0 0 0 Qp) FN 0 0 M_X7_isWriter 0 [some (aR 3), some (aI v1)] [] h := by
  unfold X7_isWriter at hh
  refine A_blk hM.1 1 (lv1 := [some (aR 3), some (aI v1)]) (s1 := [aI v1]) (h1 := h) rfl ?_
  refine A_ifc hM.1 rfl rfl (fun hc => ?_) (fun hc => ?_)
  · replace hh := OK_t hh hc
    refine A_blk hM.1 1 (lv1 := [some (aR 3), some (aI v1)]) (s1 := [aI 0]) (h1 := h) rfl ?_
    exact A_retz hM.1 rfl rfl rfl (by decide) (hq 0 hh)
  · replace hh := OK_f hh hc
    refine A_blk hM.1 3 (lv1 := [some (aR 3), some (aI v1)]) (s1 := [aI (h 3 9), aI v1]) (h1 := h) rfl ?_
    refine A_icmp hM.1 rfl rfl (fun hc => ?_) (fun hc => ?_)
    · replace hh := OK_t hh hc
      refine A_blk hM.1 1 (lv1 := [some (aR 3), some (aI v1)]) (s1 := [aI 0]) (h1 := h) rfl ?_
      exact A_retz hM.1 rfl rfl rfl (by decide) (hq 0 hh)
    · replace hh := OK_f hh hc
      refine A_blk hM.1 1 (lv1 := [some (aR 3), some (aI v1)]) (s1 := [aI 1]) (h1 := h) rfl ?_
      refine A_go hM.1 rfl rfl ?_
      exact A_retz hM.1 rfl rfl rfl (by decide) (hq 1 hh)

set_option maxRecDepth 20000 in
set_option maxHeartbeats 4000000 in
theorem ct_X7_isWriter {G : Gx} (v1 : Int) (h : Hp)   {P : Int → Prop} (hh : OK (X7_isWriter v1 h) P) : CT G yX7_isWriter M_X7_isWriter 1 0 0 FN h [aR 3, aI v1] (fun r F' h' => F' = FN ∧ ∃ z, r = some (aI z) ∧ h' = h ∧ P z) :=
  CT.of (by decide +kernel) rfl (Nat.le_of_ble_eq_true rfl) k_X7_isWriter fun k0 _ _ hM => c_X7_isWriter hM v1 h (fun z hz => ⟨rfl, z, rfl, rfl, hz⟩) hh

theorem mi_X7_bits : MIv yX7_bits M_X7_bits 0 := ⟨⟨(mem_GW 672 (by decide +kernel) rfl), (mem_GW 125 (by decide +kernel) rfl), by decide +kernel, by decide +kernel, by decide +kernel, by decide⟩, (mem_GW 670 (by decide +kernel) rfl), (mem_GW 671 (by decide +kernel) rfl)⟩
set_option maxRecDepth 20000 in
set_option maxHeartbeats 4000000 in
theorem c_X7_bits {k0 : K0} {G : Gx} {Qp : Option AV → Fx → Hp → Prop} (hM : MB (KM k0 0 0 Qp) G M_X7_bits 1) (h : Hp)   {P : Int → Prop} (hq : ∀ z : Int, P z → Qp (some (aI z)) FN h) (hh : OK (X7_bits h) P) : ATk (KM k0 0 0 Qp) FN 0 0 M_X7_bits 0 [some (aR 3)] [] h := by
  unfold X7_bits at hh
  refine A_blk hM.1 2 (lv1 := [some (aR 3)]) (s1 := [aI (h 3 11)]) (h1 := h) rfl ?_
  exact A_reti hM.1 rfl rfl rfl (hq (h 3 11) hh)

set_option maxRecDepth 20000 in
set_option maxHeartbeats 4000000 in
theorem ct_X7_bits {G : Gx} (h : Hp)   {P : Int → Prop} (hh : OK (X7_bits h) P) : CT G yX7_bits M_X7_bits 1 0 0 FN h [aR 3] (fun r F' h' => F' = FN ∧ ∃ z, r = some (aI z) ∧ h' = h ∧ P z) :=
  CT.of (by decide +kernel) rfl (Nat.le_of_ble_eq_true rfl) k_X7_bits fun k0 _ _ hM => c_X7_bits hM h (fun z hz => ⟨rfl, z, rfl, rfl, hz⟩) hh

theorem mi_X11_takeWords : MIv yX11_takeWords M_X11_takeWords 1 := ⟨⟨(mem_GW 676 (by decide +kernel) rfl), (mem_GW 123 (by decide +kernel) rfl), by decide +kernel, by decide +kernel, by decide +kernel, by decide⟩, (mem_GW 675 (by decide +kernel) rfl), (mem_GW 0 (by decide +kernel) rfl)⟩
set_option maxRecDepth 20000 in
set_option maxHeartbeats 4000000 in
theorem c_X11_takeWords_l5 {k0 : K0} {G : Gx} {Qp : Option AV → Fx → Hp → Prop} (hM : MB (KM k0 0 0 Qp) G M_X11_takeWords 2) (v1 : Int) (x : Int × Hp)   {P : ((Int × Hp) ⊕ ((Hp) ⊕ (Hp))) → Prop} (hin : ∀ y : Int × Hp, P (.inl y) → ATk (KM k0 0 0 Qp) FN 0 0 M_X11_takeWords 5 [some (aR 0), some (aI v1), some (aI y.1), none] [] y.2) (hout0 : ∀ y : Hp, P (.inr (.inl y)) → ATk (KM k0 0 0 Qp) FN 0 0 M_X11_takeWords 21 [none, none, none, none] [] y) (hout1 : ∀ y : Hp, P (.inr (.inr y)) → ATk (KM k0 0 0 Qp) FN 0 0 M_X11_takeWords 35 [none, none, none, none] [] y) (hh : OK (X11_takeWords_l5 v1 x) P) : ATk (KM k0 0 0 Qp) FN 0 0 M_X11_takeWords 5 [some (aR 0), some (aI v1), some (aI x.1), none] [] x.2 := by
  unfold X11_takeWords_l5 at hh
  refine A_blk hM.1 2 (lv1 := [some (aR 0), some (aI v1), some (aI x.1), none]) (s1 := [aI v1, aI x.1]) (h1 := x.2) rfl ?_
  refine A_icmp hM.1 rfl rfl (fun hc => ?_) (fun hc => ?_)
  · replace hh := OK_t hh hc
    refine A_mask [false, false, false, true] (lv1 := [none, none, none, none]) rfl ?_
    exact hout1 x.2 hh
  · replace hh := OK_f hh hc
    refine A_blk hM.1 2 (lv1 := [some (aR 0), some (aI v1), some (aI x.1), none]) (s1 := [aI 8, aI x.1]) (h1 := x.2) rfl ?_
    refine A_icmp hM.1 rfl rfl (fun hc => ?_) (fun hc => ?_)
    · replace hh := OK_t hh hc
      refine A_mask [false, false, false, true] (lv1 := [none, none, none, none]) rfl ?_
      exact hout1 x.2 hh
    · replace hh := OK_f hh hc
      refine A_blk hM.1 3 (lv1 := [some (aR 0), some (aI v1), some (aI x.1), none]) (s1 := [aI x.1, aR 1]) (h1 := x.2) rfl ?_
      refine A_callV hM rfl rfl (mem_GW 677 (by decide +kernel) rfl) mi_X9_byteAt (As := [aI x.1]) (rest := []) (ct_X9_byteAt x.1 x.2 (OK_bind hh)) (by decide) ⟨Nat.zero_le _, Nat.zero_le _⟩ rfl rfl (Nat.le_of_ble_eq_true rfl) (by decide) rfl (by decide) rfl (fun r F' h' hq1 => ?_)
      obtain ⟨rfl, r1, rfl, e9, hh⟩ := hq1
      subst h'
      refine A_blk hM.1 4 (lv1 := [some (aR 0), some (aI v1), some (aI x.1), some (aI r1)]) (s1 := [aI 63, aI 0, aI r1]) (h1 := x.2) rfl ?_
      refine A_callS hM rfl rfl (mem_GW 576 (by decide +kernel) rfl) mi_X11_within ms_X11_within (As := [aI r1, aI 0, aI 63]) (rest := []) (ct_X11_within r1 0 63 x.2 (OK_bind hh)) (by decide) ⟨Nat.zero_le _, Nat.zero_le _⟩ rfl rfl (Nat.le_of_ble_eq_true rfl) (fun r F' h' hq1 => ?_)
      obtain ⟨rfl, r2, rfl, e9, hh⟩ := hq1
      subst h'
      refine A_ifc hM.1 rfl rfl (fun hc => ?_) (fun hc => ?_)
      · replace hh := OK_t hh hc
        refine A_blk hM.1 4 (lv1 := [some (aR 0), some (aI v1), some (aI x.1), some (aI r1)]) (s1 := [aI r1, aI x.1, aR 85]) (h1 := x.2) rfl ?_
        obtain ⟨g3, hh⟩ := OK_g hh
        refine A_ast hM.1 rfl (Or.inl ⟨rfl, rfl, rfl⟩) rfl rfl rfl g3 ?_
        refine A_blk hM.1 6 (lv1 := [some (aR 0), some (aI v1), some (aI (x.1 + 1)), some (aI r1)]) (s1 := []) (h1 := setH (setH x.2 85 ((w32 x.1).toNat) r1) 0 14 (x.1 + 1)) rfl ?_
        refine A_go hM.1 rfl rfl ?_
        refine A_mask [true, true, true, false] (lv1 := [some (aR 0), some (aI v1), some (aI (x.1 + 1)), none]) rfl ?_
        exact hin (x.1 + 1, setH (setH x.2 85 ((w32 x.1).toNat) r1) 0 14 (x.1 + 1)) hh
      · replace hh := OK_f hh hc
        refine A_mask [false, false, false, false] (lv1 := [none, none, none, none]) rfl ?_
        exact hout0 x.2 hh

set_option maxRecDepth 20000 in
set_option maxHeartbeats 4000000 in
theorem c_X11_takeWords {k0 : K0} {G : Gx} {Qp : Option AV → Fx → Hp → Prop} (hM : MB (KM k0 0 0 Qp) G M_X11_takeWords 2) (v1 : Int) (h : Hp)   {P : (Int × Hp) → Prop} (hq : ∀ z : Int × Hp, P z → Qp (some (aI z.1)) FN z.2) (hh : OK (X11_takeWords v1 h) P) : ATk (KM k0 0 0 Qp) FN 0 0 M_X11_takeWords 0 [some (aR 0), some (aI v1), none, none] [] h := by
  unfold X11_takeWords at hh
  refine A_blk hM.1 5 (lv1 := [some (aR 0), some (aI v1), some (aI 0), none]) (s1 := []) (h1 := setH h 0 14 0) rfl ?_
  refine iter_ok (s := (0, setH h 0 14 0)) (Gp := fun z => ATk (KM k0 0 0 Qp) FN 0 0 M_X11_takeWords 5 [some (aR 0), some (aI v1), some (aI z.1), none] [] z.2) (E := fun z => (∀ y, z = (.inl y) → ATk (KM k0 0 0 Qp) FN 0 0 M_X11_takeWords 21 [none, none, none, none] [] y) ∧ (∀ y, z = (.inr y) → ATk (KM k0 0 0 Qp) FN 0 0 M_X11_takeWords 35 [none, none, none, none] [] y)) (fun z P1 g1 g2 g3 => c_X11_takeWords_l5 hM v1 z g2 (fun y hy => (g3 (.inl y) hy).1 y rfl) (fun y hy => (g3 (.inr y) hy).2 y rfl) g1) (OK_bind hh) (fun x4 hh => ?_)
  refine ⟨fun y e => ?_, fun y e => ?_⟩
  · obtain ⟨y5, rfl⟩ : ∃ z, z = y := ⟨_, rfl⟩
    subst e
    refine A_blk hM.1 1 (lv1 := [none, none, none, none]) (s1 := [aI 0]) (h1 := y5) rfl ?_
    exact A_retz hM.1 rfl rfl rfl (by decide) (hq (0, y5) hh)
  · obtain ⟨y6, rfl⟩ : ∃ z, z = y := ⟨_, rfl⟩
    subst e
    refine A_blk hM.1 1 (lv1 := [none, none, none, none]) (s1 := [aI 1]) (h1 := y6) rfl ?_
    exact A_retz hM.1 rfl rfl rfl (by decide) (hq (1, y6) hh)

set_option maxRecDepth 20000 in
set_option maxHeartbeats 4000000 in
theorem ct_X11_takeWords {G : Gx} (v1 : Int) (h : Hp)   {P : (Int × Hp) → Prop} (hh : OK (X11_takeWords v1 h) P) : CT G yX11_takeWords M_X11_takeWords 2 0 0 FN h [aR 0, aI v1] (fun r F' h' => F' = FN ∧ ∃ z, r = some (aI z.1) ∧ h' = z.2 ∧ P z) :=
  CT.of (by decide +kernel) rfl (Nat.le_of_ble_eq_true rfl) k_X11_takeWords fun k0 _ _ hM => c_X11_takeWords hM v1 h (fun z hz => ⟨rfl, z, rfl, rfl, hz⟩) hh

theorem mi_X5_forget : MIv yX5_forget M_X5_forget 0 := ⟨⟨(mem_GW 685 (by decide +kernel) rfl), (mem_GW 132 (by decide +kernel) rfl), by decide +kernel, by decide +kernel, by decide +kernel, by decide⟩, (mem_GW 683 (by decide +kernel) rfl), (mem_GW 684 (by decide +kernel) rfl)⟩
set_option maxRecDepth 20000 in
set_option maxHeartbeats 4000000 in
theorem c_X5_forget {k0 : K0} {G : Gx} {Qp : Option AV → Fx → Hp → Prop} (hM : MB (KM k0 0 0 Qp) G M_X5_forget 1) (h : Hp)   {P : Hp → Prop} (hq : ∀ z : Hp, P z → Qp none FN z) (hh : OK (X5_forget h) P) : ATk (KM k0 0 0 Qp) FN 0 0 M_X5_forget 0 [some (aR 66)] [] h := by
  unfold X5_forget at hh
  refine A_blk hM.1 3 (lv1 := [some (aR 66)]) (s1 := []) (h1 := setH h 66 16 (-1)) rfl ?_
  exact A_retv hM.1 rfl rfl rfl (hq (setH h 66 16 (-1)) hh)

set_option maxRecDepth 20000 in
set_option maxHeartbeats 4000000 in
theorem ct_X5_forget {G : Gx} (h : Hp)   {P : Hp → Prop} (hh : OK (X5_forget h) P) : CT G yX5_forget M_X5_forget 1 0 0 FN h [aR 66] (fun r F' h' => F' = FN ∧ r = none ∧ P h') :=
  CT.of (by decide +kernel) rfl (Nat.le_of_ble_eq_true rfl) k_X5_forget fun k0 _ _ hM => c_X5_forget hM h (fun z hz => ⟨rfl, rfl, hz⟩) hh

theorem mi_X7_addBit : MIv yX7_addBit M_X7_addBit 4 := ⟨⟨(mem_GW 689 (by decide +kernel) rfl), (mem_GW 125 (by decide +kernel) rfl), by decide +kernel, by decide +kernel, by decide +kernel, by decide⟩, (mem_GW 687 (by decide +kernel) rfl), (mem_GW 688 (by decide +kernel) rfl)⟩
set_option maxRecDepth 20000 in
set_option maxHeartbeats 4000000 in
theorem c_X7_addBit {k0 : K0} {G : Gx} {Qp : Option AV → Fx → Hp → Prop} (hM : MB (KM k0 0 0 Qp) G M_X7_addBit 2) (v1 : Int) (v2 : Int) (v3 : Int) (v4 : Int) (h : Hp)   {P : (Int × Hp) → Prop} (hq : ∀ z : Int × Hp, P z → Qp (some (aI z.1)) FN z.2) (hh : OK (X7_addBit v1 v2 v3 v4 h) P) : ATk (KM k0 0 0 Qp) FN 0 0 M_X7_addBit 0 [some (aR 3), some (aI v1), some (aI v2), some (aI v3), some (aI v4)] [] h := by
  unfold X7_addBit at hh
  refine A_blk hM.1 3 (lv1 := [some (aR 3), some (aI v1), some (aI v2), some (aI v3), some (aI v4)]) (s1 := [aI 40, aI (h 3 11)]) (h1 := h) rfl ?_
  refine A_icmp hM.1 rfl rfl (fun hc => ?_) (fun hc => ?_)
  · replace hh := OK_t hh hc
    refine A_blk hM.1 5 (lv1 := [some (aR 3), some (aI v1), some (aI v2), some (aI v3), some (aI v4)]) (s1 := [aI v1, aI (h 3 11), aR 12]) (h1 := h) rfl ?_
    refine A_callSN (host := "QuotedBooks") hM rfl rfl (mem_NW 583 (by decide +kernel) rfl) mi_X11_put ms_X11_put (As := [aR 12, aI (h 3 11), aI v1]) (rest := []) (ct_X11_put 12 40 (h 3 11) v1 h rfl rfl (OK_bind hh)) (by decide) ⟨Nat.zero_le _, Nat.zero_le _⟩ rfl rfl (Nat.le_of_ble_eq_true rfl) (fun r F' h' hq1 => ?_)
    obtain ⟨rfl, rfl, hh⟩ := hq1
    obtain ⟨r1, rfl⟩ : ∃ z, z = h' := ⟨_, rfl⟩
    refine A_blk hM.1 5 (lv1 := [some (aR 3), some (aI v1), some (aI v2), some (aI v3), some (aI v4)]) (s1 := [aI v2, aI (r1 3 11), aR 13]) (h1 := r1) rfl ?_
    refine A_callSN (host := "QuotedBooks") hM rfl rfl (mem_NW 583 (by decide +kernel) rfl) mi_X11_put ms_X11_put (As := [aR 13, aI (r1 3 11), aI v2]) (rest := []) (ct_X11_put 13 40 (r1 3 11) v2 r1 rfl rfl (OK_bind hh)) (by decide) ⟨Nat.zero_le _, Nat.zero_le _⟩ rfl rfl (Nat.le_of_ble_eq_true rfl) (fun r F' h' hq1 => ?_)
    obtain ⟨rfl, rfl, hh⟩ := hq1
    obtain ⟨r2, rfl⟩ : ∃ z, z = h' := ⟨_, rfl⟩
    refine A_blk hM.1 5 (lv1 := [some (aR 3), some (aI v1), some (aI v2), some (aI v3), some (aI v4)]) (s1 := [aI v3, aI (r2 3 11), aR 14]) (h1 := r2) rfl ?_
    refine A_callSN (host := "QuotedBooks") hM rfl rfl (mem_NW 583 (by decide +kernel) rfl) mi_X11_put ms_X11_put (As := [aR 14, aI (r2 3 11), aI v3]) (rest := []) (ct_X11_put 14 40 (r2 3 11) v3 r2 rfl rfl (OK_bind hh)) (by decide) ⟨Nat.zero_le _, Nat.zero_le _⟩ rfl rfl (Nat.le_of_ble_eq_true rfl) (fun r F' h' hq1 => ?_)
    obtain ⟨rfl, rfl, hh⟩ := hq1
    obtain ⟨r3, rfl⟩ : ∃ z, z = h' := ⟨_, rfl⟩
    refine A_blk hM.1 5 (lv1 := [some (aR 3), some (aI v1), some (aI v2), some (aI v3), some (aI v4)]) (s1 := [aI v4, aI (r3 3 11), aR 15]) (h1 := r3) rfl ?_
    refine A_callSN (host := "QuotedBooks") hM rfl rfl (mem_NW 583 (by decide +kernel) rfl) mi_X11_put ms_X11_put (As := [aR 15, aI (r3 3 11), aI v4]) (rest := []) (ct_X11_put 15 40 (r3 3 11) v4 r3 rfl rfl (OK_bind hh)) (by decide) ⟨Nat.zero_le _, Nat.zero_le _⟩ rfl rfl (Nat.le_of_ble_eq_true rfl) (fun r F' h' hq1 => ?_)
    obtain ⟨rfl, rfl, hh⟩ := hq1
    obtain ⟨r4, rfl⟩ : ∃ z, z = h' := ⟨_, rfl⟩
    refine A_blk hM.1 10 (lv1 := [some (aR 3), some (aI v1), some (aI v2), some (aI v3), some (aI v4)]) (s1 := [aI (((r4 3 11) + 1) - 1)]) (h1 := setH r4 3 11 ((r4 3 11) + 1)) rfl ?_
    exact A_reti hM.1 rfl rfl rfl (hq (((r4 3 11) + 1) - 1, setH r4 3 11 ((r4 3 11) + 1)) hh)
  · replace hh := OK_f hh hc
    refine A_blk hM.1 1 (lv1 := [some (aR 3), some (aI v1), some (aI v2), some (aI v3), some (aI v4)]) (s1 := [aI (-1)]) (h1 := h) rfl ?_
    exact A_reti hM.1 rfl rfl rfl (hq ((-1), h) hh)

set_option maxRecDepth 20000 in
set_option maxHeartbeats 4000000 in
theorem ct_X7_addBit {G : Gx} (v1 : Int) (v2 : Int) (v3 : Int) (v4 : Int) (h : Hp)   {P : (Int × Hp) → Prop} (hh : OK (X7_addBit v1 v2 v3 v4 h) P) : CT G yX7_addBit M_X7_addBit 2 0 0 FN h [aR 3, aI v1, aI v2, aI v3, aI v4] (fun r F' h' => F' = FN ∧ ∃ z, r = some (aI z.1) ∧ h' = z.2 ∧ P z) :=
  CT.of (by decide +kernel) rfl (Nat.le_of_ble_eq_true rfl) k_X7_addBit fun k0 _ _ hM => c_X7_addBit hM v1 v2 v3 v4 h (fun z hz => ⟨rfl, z, rfl, rfl, hz⟩) hh

theorem mi_X7_isBit : MIv yX7_isBit M_X7_isBit 1 := ⟨⟨(mem_GW 697 (by decide +kernel) rfl), (mem_GW 125 (by decide +kernel) rfl), by decide +kernel, by decide +kernel, by decide +kernel, by decide⟩, (mem_GW 695 (by decide +kernel) rfl), (mem_GW 696 (by decide +kernel) rfl)⟩
set_option maxRecDepth 20000 in
set_option maxHeartbeats 4000000 in
theorem c_X7_isBit {k0 : K0} {G : Gx} {Qp : Option AV → Fx → Hp → Prop} (hM : MB (KM k0 0 0 Qp) G M_X7_isBit 1) (v1 : Int) (h : Hp)   {P : Int → Prop} (hq : ∀ z : Int, P z → Qp (some (aI z)) FN h) (hh : OK (X7_isBit v1 h) P) : ATk (KM k0 0 0 Qp) FN 0 0 M_X7_isBit 0 [some (aR 3), some (aI v1)] [] h := by
  unfold X7_isBit at hh
  refine A_blk hM.1 1 (lv1 := [some (aR 3), some (aI v1)]) (s1 := [aI v1]) (h1 := h) rfl ?_
  refine A_ifc hM.1 rfl rfl (fun hc => ?_) (fun hc => ?_)
  · replace hh := OK_t hh hc
    refine A_blk hM.1 1 (lv1 := [some (aR 3), some (aI v1)]) (s1 := [aI 0]) (h1 := h) rfl ?_
    exact A_retz hM.1 rfl rfl rfl (by decide) (hq 0 hh)
  · replace hh := OK_f hh hc
    refine A_blk hM.1 3 (lv1 := [some (aR 3), some (aI v1)]) (s1 := [aI (h 3 11), aI v1]) (h1 := h) rfl ?_
    refine A_icmp hM.1 rfl rfl (fun hc => ?_) (fun hc => ?_)
    · replace hh := OK_t hh hc
      refine A_blk hM.1 1 (lv1 := [some (aR 3), some (aI v1)]) (s1 := [aI 0]) (h1 := h) rfl ?_
      exact A_retz hM.1 rfl rfl rfl (by decide) (hq 0 hh)
    · replace hh := OK_f hh hc
      refine A_blk hM.1 1 (lv1 := [some (aR 3), some (aI v1)]) (s1 := [aI 1]) (h1 := h) rfl ?_
      refine A_go hM.1 rfl rfl ?_
      exact A_retz hM.1 rfl rfl rfl (by decide) (hq 1 hh)

set_option maxRecDepth 20000 in
set_option maxHeartbeats 4000000 in
theorem ct_X7_isBit {G : Gx} (v1 : Int) (h : Hp)   {P : Int → Prop} (hh : OK (X7_isBit v1 h) P) : CT G yX7_isBit M_X7_isBit 1 0 0 FN h [aR 3, aI v1] (fun r F' h' => F' = FN ∧ ∃ z, r = some (aI z) ∧ h' = h ∧ P z) :=
  CT.of (by decide +kernel) rfl (Nat.le_of_ble_eq_true rfl) k_X7_isBit fun k0 _ _ hM => c_X7_isBit hM v1 h (fun z hz => ⟨rfl, z, rfl, rfl, hz⟩) hh

theorem mi_X7_tellBitWords : MIv yX7_tellBitWords M_X7_tellBitWords 3 := ⟨⟨(mem_GW 693 (by decide +kernel) rfl), (mem_GW 125 (by decide +kernel) rfl), by decide +kernel, by decide +kernel, by decide +kernel, by decide⟩, (mem_GW 691 (by decide +kernel) rfl), (mem_GW 692 (by decide +kernel) rfl)⟩
set_option maxRecDepth 20000 in
set_option maxHeartbeats 4000000 in
theorem c_X7_tellBitWords_l12 {k0 : K0} {G : Gx} {Qp : Option AV → Fx → Hp → Prop} (hM : MB (KM k0 0 0 Qp) G M_X7_tellBitWords 2) (v1 : Int) (v3 : Int) (x : Int × Hp)   {P : ((Int × Hp) ⊕ (Hp)) → Prop} (hin : ∀ y : Int × Hp, P (.inl y) → ATk (KM k0 0 0 Qp) FN 0 0 M_X7_tellBitWords 12 [some (aR 3), some (aI v1), some (aR 85), some (aI v3), some (aI y.1)] [] y.2) (hout0 : ∀ y : Hp, P (.inr y) → ATk (KM k0 0 0 Qp) FN 0 0 M_X7_tellBitWords 31 [none, none, none, none, none] [] y) (hh : OK (X7_tellBitWords_l12 v1 v3 x) P) : ATk (KM k0 0 0 Qp) FN 0 0 M_X7_tellBitWords 12 [some (aR 3), some (aI v1), some (aR 85), some (aI v3), some (aI x.1)] [] x.2 := by
  unfold X7_tellBitWords_l12 at hh
  refine A_blk hM.1 2 (lv1 := [some (aR 3), some (aI v1), some (aR 85), some (aI v3), some (aI x.1)]) (s1 := [aI v3, aI x.1]) (h1 := x.2) rfl ?_
  refine A_icmp hM.1 rfl rfl (fun hc => ?_) (fun hc => ?_)
  · replace hh := OK_t hh hc
    refine A_mask [false, false, false, false, false] (lv1 := [none, none, none, none, none]) rfl ?_
    exact hout0 x.2 hh
  · replace hh := OK_f hh hc
    refine A_blk hM.1 2 (lv1 := [some (aR 3), some (aI v1), some (aR 85), some (aI v3), some (aI x.1)]) (s1 := [aI 8, aI x.1]) (h1 := x.2) rfl ?_
    refine A_icmp hM.1 rfl rfl (fun hc => ?_) (fun hc => ?_)
    · replace hh := OK_t hh hc
      refine A_mask [false, false, false, false, false] (lv1 := [none, none, none, none, none]) rfl ?_
      exact hout0 x.2 hh
    · replace hh := OK_f hh hc
      refine A_blk hM.1 9 (lv1 := [some (aR 3), some (aI v1), some (aR 85), some (aI v3), some (aI x.1)]) (s1 := [aI x.1, aR 85, aI ((v1 * 8) + x.1), aR 17]) (h1 := x.2) rfl ?_
      refine A_callSN (host := "QuotedBooks") hM rfl rfl (mem_NW 641 (by decide +kernel) rfl) mi_X11_at ms_X11_at (As := [aR 85, aI x.1]) (rest := [aI ((v1 * 8) + x.1), aR 17]) (ct_X11_at 85 8 x.1 x.2 rfl rfl (OK_bind hh)) (by decide) ⟨Nat.zero_le _, Nat.zero_le _⟩ rfl rfl (Nat.le_of_ble_eq_true rfl) (fun r F' h' hq1 => ?_)
      obtain ⟨rfl, r3, rfl, e9, hh⟩ := hq1
      subst h'
      refine A_callSN (host := "QuotedBooks") hM rfl rfl (mem_NW 583 (by decide +kernel) rfl) mi_X11_put ms_X11_put (As := [aR 17, aI ((v1 * 8) + x.1), aI r3]) (rest := []) (ct_X11_put 17 320 ((v1 * 8) + x.1) r3 x.2 rfl rfl (OK_bind hh)) (by decide) ⟨Nat.zero_le _, Nat.zero_le _⟩ rfl rfl (Nat.le_of_ble_eq_true rfl) (fun r F' h' hq1 => ?_)
      obtain ⟨rfl, rfl, hh⟩ := hq1
      obtain ⟨r4, rfl⟩ : ∃ z, z = h' := ⟨_, rfl⟩
      refine A_blk hM.1 1 (lv1 := [some (aR 3), some (aI v1), some (aR 85), some (aI v3), some (aI (x.1 + 1))]) (s1 := []) (h1 := r4) rfl ?_
      refine A_go hM.1 rfl rfl ?_
      exact hin (x.1 + 1, r4) hh

set_option maxRecDepth 20000 in
set_option maxHeartbeats 4000000 in
theorem c_X7_tellBitWords {k0 : K0} {G : Gx} {Qp : Option AV → Fx → Hp → Prop} (hM : MB (KM k0 0 0 Qp) G M_X7_tellBitWords 2) (v1 : Int) (v3 : Int) (h : Hp)   {P : Hp → Prop} (hq : ∀ z : Hp, P z → Qp none FN z) (hh : OK (X7_tellBitWords v1 v3 h) P) : ATk (KM k0 0 0 Qp) FN 0 0 M_X7_tellBitWords 0 [some (aR 3), some (aI v1), some (aR 85), some (aI v3), none] [] h := by
  unfold X7_tellBitWords at hh
  refine A_blk hM.1 2 (lv1 := [some (aR 3), some (aI v1), some (aR 85), some (aI v3), none]) (s1 := [aI v1, aR 3]) (h1 := h) rfl ?_
  refine A_callV hM rfl rfl (mem_GW 694 (by decide +kernel) rfl) mi_X7_isBit (As := [aI v1]) (rest := []) (ct_X7_isBit v1 h (OK_bind hh)) (by decide) ⟨Nat.zero_le _, Nat.zero_le _⟩ rfl rfl (Nat.le_of_ble_eq_true rfl) (by decide) rfl (by decide) rfl (fun r F' h' hq1 => ?_)
  obtain ⟨rfl, r1, rfl, e9, hh⟩ := hq1
  subst h'
  refine A_ifc hM.1 rfl rfl (fun hc => ?_) (fun hc => ?_)
  · replace hh := OK_t hh hc
    refine A_blk hM.1 4 (lv1 := [some (aR 3), some (aI v1), some (aR 85), some (aI v3), none]) (s1 := [aI v3, aI v1, aR 16]) (h1 := h) rfl ?_
    refine A_callSN (host := "QuotedBooks") hM rfl rfl (mem_NW 583 (by decide +kernel) rfl) mi_X11_put ms_X11_put (As := [aR 16, aI v1, aI v3]) (rest := []) (ct_X11_put 16 40 v1 v3 h rfl rfl (OK_bind hh)) (by decide) ⟨Nat.zero_le _, Nat.zero_le _⟩ rfl rfl (Nat.le_of_ble_eq_true rfl) (fun r F' h' hq1 => ?_)
    obtain ⟨rfl, rfl, hh⟩ := hq1
    obtain ⟨r2, rfl⟩ : ∃ z, z = h' := ⟨_, rfl⟩
    refine A_blk hM.1 2 (lv1 := [some (aR 3), some (aI v1), some (aR 85), some (aI v3), some (aI 0)]) (s1 := []) (h1 := r2) rfl ?_
    refine iter_ok (s := (0, r2)) (Gp := fun z => ATk (KM k0 0 0 Qp) FN 0 0 M_X7_tellBitWords 12 [some (aR 3), some (aI v1), some (aR 85), some (aI v3), some (aI z.1)] [] z.2) (E := fun z => ATk (KM k0 0 0 Qp) FN 0 0 M_X7_tellBitWords 31 [none, none, none, none, none] [] z) (fun z P1 g1 g2 g3 => c_X7_tellBitWords_l12 hM v1 v3 z g2 g3 g1) (OK_bind hh) (fun x5 hh => ?_)
    exact A_retv hM.1 rfl rfl rfl (hq x5 hh)
  · replace hh := OK_f hh hc
    exact A_retv hM.1 rfl rfl rfl (hq h hh)

set_option maxRecDepth 20000 in
set_option maxHeartbeats 4000000 in
theorem ct_X7_tellBitWords {G : Gx} (v1 : Int) (v3 : Int) (h : Hp)   {P : Hp → Prop} (hh : OK (X7_tellBitWords v1 v3 h) P) : CT G yX7_tellBitWords M_X7_tellBitWords 2 0 0 FN h [aR 3, aI v1, aR 85, aI v3] (fun r F' h' => F' = FN ∧ r = none ∧ P h') :=
  CT.of (by decide +kernel) rfl (Nat.le_of_ble_eq_true rfl) k_X7_tellBitWords fun k0 _ _ hM => c_X7_tellBitWords hM v1 v3 h (fun z hz => ⟨rfl, rfl, hz⟩) hh

theorem mi_X11_keepBit : MIv yX11_keepBit M_X11_keepBit 4 := ⟨⟨(mem_GW 681 (by decide +kernel) rfl), (mem_GW 123 (by decide +kernel) rfl), by decide +kernel, by decide +kernel, by decide +kernel, by decide⟩, (mem_GW 680 (by decide +kernel) rfl), (mem_GW 1 (by decide +kernel) rfl)⟩
set_option maxRecDepth 20000 in
set_option maxHeartbeats 4000000 in
theorem c_X11_keepBit {k0 : K0} {G : Gx} {Qp : Option AV → Fx → Hp → Prop} (hM : MB (KM k0 0 0 Qp) G M_X11_keepBit 3) (v1 : Int) (v2 : Int) (v3 : Int) (v4 : Int) (h : Hp)   {P : (Int × Hp) → Prop} (hq : ∀ z : Int × Hp, P z → Qp (some (aI z.1)) FN z.2) (hh : OK (X11_keepBit v1 v2 v3 v4 h) P) : ATk (KM k0 0 0 Qp) FN 0 0 M_X11_keepBit 0 [some (aR 0), some (aI v1), some (aI v2), some (aI v3), some (aI v4), none] [] h := by
  unfold X11_keepBit at hh
  refine A_blk hM.1 2 (lv1 := [some (aR 0), some (aI v1), some (aI v2), some (aI v3), some (aI v4), none]) (s1 := [aR 66]) (h1 := h) rfl ?_
  refine A_callV hM rfl rfl (mem_GW 682 (by decide +kernel) rfl) mi_X5_forget (As := []) (rest := []) (ct_X5_forget h (OK_bind hh)) (by decide) ⟨Nat.zero_le _, Nat.zero_le _⟩ rfl rfl (Nat.le_of_ble_eq_true rfl) (by decide) rfl (by decide) rfl (fun r F' h' hq1 => ?_)
  obtain ⟨rfl, rfl, hh⟩ := hq1
  obtain ⟨r1, rfl⟩ : ∃ z, z = h' := ⟨_, rfl⟩
  refine A_blk hM.1 6 (lv1 := [some (aR 0), some (aI v1), some (aI v2), some (aI v3), some (aI v4), none]) (s1 := [aI v4, aI v3, aI v2, aI v1, aR 3]) (h1 := r1) rfl ?_
  refine A_callV hM rfl rfl (mem_GW 686 (by decide +kernel) rfl) mi_X7_addBit (As := [aI v1, aI v2, aI v3, aI v4]) (rest := []) (ct_X7_addBit v1 v2 v3 v4 r1 (OK_bind hh)) (by decide) ⟨Nat.zero_le _, Nat.zero_le _⟩ rfl rfl (Nat.le_of_ble_eq_true rfl) (by decide) rfl (by decide) rfl (fun r F' h' hq1 => ?_)
  obtain ⟨rfl, r2, rfl, e9, hh⟩ := hq1
  subst h'
  refine A_blk hM.1 8 (lv1 := [some (aR 0), some (aI v1), some (aI v2), some (aI v3), some (aI v4), some (aI r2.1)]) (s1 := [aI (r2.2 0 14), aR 85, aI r2.1, aR 3]) (h1 := r2.2) rfl ?_
  refine A_callV hM rfl rfl (mem_GW 690 (by decide +kernel) rfl) mi_X7_tellBitWords (As := [aI r2.1, aR 85, aI (r2.2 0 14)]) (rest := []) (ct_X7_tellBitWords r2.1 (r2.2 0 14) r2.2 (OK_bind hh)) (by decide) ⟨Nat.zero_le _, Nat.zero_le _⟩ rfl rfl (Nat.le_of_ble_eq_true rfl) (by decide) rfl (by decide) rfl (fun r F' h' hq1 => ?_)
  obtain ⟨rfl, rfl, hh⟩ := hq1
  obtain ⟨r3, rfl⟩ : ∃ z, z = h' := ⟨_, rfl⟩
  refine A_blk hM.1 1 (lv1 := [some (aR 0), some (aI v1), some (aI v2), some (aI v3), some (aI v4), some (aI r2.1)]) (s1 := [aI r2.1]) (h1 := r3) rfl ?_
  exact A_reti hM.1 rfl rfl rfl (hq (r2.1, r3) hh)

set_option maxRecDepth 20000 in
set_option maxHeartbeats 4000000 in
theorem ct_X11_keepBit {G : Gx} (v1 : Int) (v2 : Int) (v3 : Int) (v4 : Int) (h : Hp)   {P : (Int × Hp) → Prop} (hh : OK (X11_keepBit v1 v2 v3 v4 h) P) : CT G yX11_keepBit M_X11_keepBit 3 0 0 FN h [aR 0, aI v1, aI v2, aI v3, aI v4] (fun r F' h' => F' = FN ∧ ∃ z, r = some (aI z.1) ∧ h' = z.2 ∧ P z) :=
  CT.of (by decide +kernel) rfl (Nat.le_of_ble_eq_true rfl) k_X11_keepBit fun k0 _ _ hM => c_X11_keepBit hM v1 v2 v3 v4 h (fun z hz => ⟨rfl, z, rfl, rfl, hz⟩) hh

