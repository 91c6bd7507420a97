set_option linter.all false
theorem mi_X10_step : MIv yX10_step M_X10_step 1 := ⟨⟨(mem_GW 956 (by decide +kernel) rfl), (mem_GW 127 (by decide +kernel) rfl), by decide +kernel, by decide +kernel, by decide +kernel, by decide⟩, (mem_GW 955 (by decide +kernel) rfl), (mem_GW 20 (by decide +kernel) rfl)⟩
set_option maxRecDepth 20000 in
set_option maxHeartbeats 4000000 in
theorem c_X10_step_j41 {k0 : K0} {G : Gx} {Qp : Option AV → Fx → Hp → Prop} (hM : MB (KM k0 0 0 Qp) G M_X10_step 2) (t : Nat) (v1 : Int) (s1 : Int) (h : Hp)  (ht : t ∈ txL) {P : (Int × Hp) → Prop} (hq : ∀ z : Int × Hp, P z → Qp (some (aI z.1)) FN z.2) (hh : OK (X10_step_j41 t v1 s1 h) P) : ATk (KM k0 0 0 Qp) FN 0 0 M_X10_step 41 [none, some (aI v1), none, none] [aI s1, aR t] h := by
  unfold X10_step_j41 at hh
  refine A_callV hM rfl rfl (mem_GW 957 (by decide +kernel) rfl) mi_X10_push (As := [aI s1]) (rest := []) (ct_X10_push t s1 h ht (OK_bind hh)) (by decide) ⟨Nat.zero_le _, Nat.zero_le _⟩ rfl rfl (Nat.le_of_ble_eq_true rfl) (tx_l0 ht) (tx_k0 ht) (by decide) rfl (fun r F' h' hq1 => ?_)
  obtain ⟨rfl, rfl, hh⟩ := hq1
  obtain ⟨r7, rfl⟩ : ∃ z, z = h' := ⟨_, rfl⟩
  refine A_blk hM.1 3 (lv1 := [none, some (aI v1), none, none]) (s1 := [aI (v1 + 1)]) (h1 := r7) rfl ?_
  exact A_reti hM.1 rfl rfl rfl (hq (v1 + 1, r7) hh)

set_option maxRecDepth 20000 in
set_option maxHeartbeats 4000000 in
theorem c_X10_step {k0 : K0} {G : Gx} {Qp : Option AV → Fx → Hp → Prop} (hM : MB (KM k0 0 0 Qp) G M_X10_step 2) (t : Nat) (v1 : Int) (h : Hp)  (ht : t ∈ txL) {P : (Int × Hp) → Prop} (hq : ∀ z : Int × Hp, P z → Qp (some (aI z.1)) FN z.2) (hh : OK (X10_step t v1 h) P) : ATk (KM k0 0 0 Qp) FN 0 0 M_X10_step 0 [some (aR t), some (aI v1), none, none] [] h := by
  unfold X10_step at hh
  refine A_blk hM.1 1 (lv1 := [some (aR t), some (aI v1), none, none]) (s1 := [aI v1]) (h1 := h) rfl ?_
  refine A_ifc hM.1 rfl rfl (fun hc => ?_) (fun hc => ?_)
  · replace hh := OK_t hh hc
    refine A_blk hM.1 1 (lv1 := [some (aR t), some (aI v1), none, none]) (s1 := [aI 160]) (h1 := h) rfl ?_
    exact A_reti hM.1 rfl rfl rfl (hq (160, h) hh)
  · replace hh := OK_f hh hc
    refine A_blk hM.1 2 (lv1 := [some (aR t), some (aI v1), none, none]) (s1 := [aI 160, aI v1]) (h1 := h) rfl ?_
    refine A_icmp hM.1 rfl rfl (fun hc => ?_) (fun hc => ?_)
    · replace hh := OK_t hh hc
      refine A_blk hM.1 1 (lv1 := [some (aR t), some (aI v1), none, none]) (s1 := [aR t]) (h1 := h) rfl ?_
      refine A_gr hM.1 rfl rfl rfl (tx_k0 ht) (tx_l0 ht) (Nat.lt_trans (tx_l5 ht) NF_lt) (tx_r6 ht) rfl ?_
      refine A_blk hM.1 1 (lv1 := [some (aR t), some (aI v1), none, none]) (s1 := [aI v1, aR (t + 5)]) (h1 := h) rfl ?_
      obtain ⟨g1, hh⟩ := OK_g hh
      refine A_ald hM.1 rfl (Or.inl ⟨rfl, (tx_k5 ht)⟩) (tx_n5 ht) (tx_l5 ht) rfl g1 ?_
      refine A_blk hM.1 2 (lv1 := [some (aR t), some (aI v1), some (aI (h (t + 5) ((w32 v1).toNat))), none]) (s1 := [aR t]) (h1 := h) rfl ?_
      refine A_gr hM.1 rfl rfl rfl (tx_k0 ht) (tx_l0 ht) (Nat.lt_trans (tx_l4 ht) NF_lt) (tx_r5 ht) rfl ?_
      refine A_blk hM.1 1 (lv1 := [some (aR t), some (aI v1), some (aI (h (t + 5) ((w32 v1).toNat))), none]) (s1 := [aI v1, aR (t + 4)]) (h1 := h) rfl ?_
      obtain ⟨g2, hh⟩ := OK_g hh
      refine A_ald hM.1 rfl (Or.inl ⟨rfl, (tx_k4 ht)⟩) (tx_n4 ht) (tx_l4 ht) rfl g2 ?_
      refine A_lsw hM.1 rfl [(1, 17), (2, 24), (33, 34), (38, 46), (124, 56)] 66 (by decide +kernel) ?_
      refine ⟨fun hc => ?_, fun hc => ?_⟩
      · replace hh := OK_t hh hc
        refine A_blk hM.1 2 (lv1 := [some (aR t), some (aI v1), some (aI (h (t + 5) ((w32 v1).toNat))), none]) (s1 := [aI (h (t + 5) ((w32 v1).toNat)), aR t]) (h1 := h) rfl ?_
        refine A_callV hM rfl rfl (mem_GW 957 (by decide +kernel) rfl) mi_X10_push (As := [aI (h (t + 5) ((w32 v1).toNat))]) (rest := []) (ct_X10_push t (h (t + 5) ((w32 v1).toNat)) h ht (OK_bind hh)) (by decide) ⟨Nat.zero_le _, Nat.zero_le _⟩ rfl rfl (Nat.le_of_ble_eq_true rfl) (tx_l0 ht) (tx_k0 ht) (by decide) rfl (fun r F' h' hq1 => ?_)
        obtain ⟨rfl, rfl, hh⟩ := hq1
        obtain ⟨r3, rfl⟩ : ∃ z, z = h' := ⟨_, rfl⟩
        refine A_blk hM.1 3 (lv1 := [some (aR t), some (aI v1), some (aI (h (t + 5) ((w32 v1).toNat))), none]) (s1 := [aI (v1 + 1)]) (h1 := r3) rfl ?_
        exact A_reti hM.1 rfl rfl rfl (hq (v1 + 1, r3) hh)
      replace hh := OK_f hh hc
      refine ⟨fun hc => ?_, fun hc => ?_⟩
      · replace hh := OK_t hh hc
        refine A_blk hM.1 2 (lv1 := [some (aR t), some (aI v1), some (aI (h (t + 5) ((w32 v1).toNat))), none]) (s1 := [aR t, aR t]) (h1 := h) rfl ?_
        refine A_gr hM.1 rfl rfl rfl (tx_k0 ht) (tx_l0 ht) (Nat.lt_trans (tx_l6 ht) NF_lt) (tx_r7 ht) rfl ?_
        refine A_blk hM.1 1 (lv1 := [some (aR t), some (aI v1), some (aI (h (t + 5) ((w32 v1).toNat))), none]) (s1 := [aI (h (t + 5) ((w32 v1).toNat)), aR (t + 6), aR t]) (h1 := h) rfl ?_
        refine A_callSN (host := "QuotedBooks") hM rfl rfl (mem_NW 961 (by decide +kernel) rfl) mi_X11_at ms_X11_at (As := [aR (t + 6), aI (h (t + 5) ((w32 v1).toNat))]) (rest := [aR t]) (ct_X11_at (t + 6) 26 (h (t + 5) ((w32 v1).toNat)) h (tx_k6 ht) (tx_n6 ht) (OK_bind hh)) (by decide) ⟨Nat.zero_le _, Nat.zero_le _⟩ rfl rfl (Nat.le_of_ble_eq_true rfl) (fun r F' h' hq1 => ?_)
        obtain ⟨rfl, r4, rfl, e9, hh⟩ := hq1
        subst h'
        refine A_callV hM rfl rfl (mem_GW 957 (by decide +kernel) rfl) mi_X10_push (As := [aI r4]) (rest := []) (ct_X10_push t r4 h ht (OK_bind hh)) (by decide) ⟨Nat.zero_le _, Nat.zero_le _⟩ rfl rfl (Nat.le_of_ble_eq_true rfl) (tx_l0 ht) (tx_k0 ht) (by decide) rfl (fun r F' h' hq1 => ?_)
        obtain ⟨rfl, rfl, hh⟩ := hq1
        obtain ⟨r5, rfl⟩ : ∃ z, z = h' := ⟨_, rfl⟩
        refine A_blk hM.1 3 (lv1 := [some (aR t), some (aI v1), some (aI (h (t + 5) ((w32 v1).toNat))), none]) (s1 := [aI (v1 + 1)]) (h1 := r5) rfl ?_
        exact A_reti hM.1 rfl rfl rfl (hq (v1 + 1, r5) hh)
      replace hh := OK_f hh hc
      refine ⟨fun hc => ?_, fun hc => ?_⟩
      · replace hh := OK_t hh hc
        refine A_blk hM.1 2 (lv1 := [some (aR t), some (aI v1), some (aI (h (t + 5) ((w32 v1).toNat))), none]) (s1 := [aR t, aR t]) (h1 := h) rfl ?_
        refine A_callV hM rfl rfl (mem_GW 962 (by decide +kernel) rfl) mi_X10_pop (As := []) (rest := [aR t]) (ct_X10_pop t h ht (OK_bind hh)) (by decide) ⟨Nat.zero_le _, Nat.zero_le _⟩ rfl rfl (Nat.le_of_ble_eq_true rfl) (tx_l0 ht) (tx_k0 ht) (by decide) rfl (fun r F' h' hq1 => ?_)
        obtain ⟨rfl, r6, rfl, e9, hh⟩ := hq1
        subst h'
        refine A_ifc hM.1 rfl rfl (fun hc => ?_) (fun hc => ?_)
        · replace hh := OK_t hh hc
          refine A_blk hM.1 1 (lv1 := [some (aR t), some (aI v1), some (aI (h (t + 5) ((w32 v1).toNat))), none]) (s1 := [aI 0, aR t]) (h1 := r6.2) rfl ?_
          refine A_mask [false, true, false, true] (lv1 := [none, some (aI v1), none, none]) rfl ?_
          exact c_X10_step_j41 hM t v1 0 r6.2 ht hq hh
        · replace hh := OK_f hh hc
          refine A_blk hM.1 1 (lv1 := [some (aR t), some (aI v1), some (aI (h (t + 5) ((w32 v1).toNat))), none]) (s1 := [aI 1, aR t]) (h1 := r6.2) rfl ?_
          refine A_go hM.1 rfl rfl ?_
          refine A_mask [false, true, false, true] (lv1 := [none, some (aI v1), none, none]) rfl ?_
          exact c_X10_step_j41 hM t v1 1 r6.2 ht hq hh
      replace hh := OK_f hh hc
      refine ⟨fun hc => ?_, fun hc => ?_⟩
      · replace hh := OK_t hh hc
        refine A_blk hM.1 2 (lv1 := [some (aR t), some (aI v1), some (aI (h (t + 5) ((w32 v1).toNat))), none]) (s1 := [aI 0, aR t]) (h1 := h) rfl ?_
        refine A_callV hM rfl rfl (mem_GW 966 (by decide +kernel) rfl) mi_X10_keepsTop (As := [aI 0]) (rest := []) (ct_X10_keepsTop t 0 h ht (OK_bind hh)) (by decide) ⟨Nat.zero_le _, Nat.zero_le _⟩ rfl rfl (Nat.le_of_ble_eq_true rfl) (tx_l0 ht) (tx_k0 ht) (by decide) rfl (fun r F' h' hq1 => ?_)
        obtain ⟨rfl, r8, rfl, e9, hh⟩ := hq1
        subst h'
        refine A_ifc hM.1 rfl rfl (fun hc => ?_) (fun hc => ?_)
        · replace hh := OK_t hh hc
          refine A_blk hM.1 3 (lv1 := [some (aR t), some (aI v1), some (aI (h (t + 5) ((w32 v1).toNat))), none]) (s1 := [aI (v1 + 1)]) (h1 := r8.2) rfl ?_
          exact A_reti hM.1 rfl rfl rfl (hq (v1 + 1, r8.2) hh)
        · replace hh := OK_f hh hc
          refine A_blk hM.1 1 (lv1 := [some (aR t), some (aI v1), some (aI (h (t + 5) ((w32 v1).toNat))), none]) (s1 := [aI (h (t + 5) ((w32 v1).toNat))]) (h1 := r8.2) rfl ?_
          refine A_go hM.1 rfl rfl ?_
          exact A_reti hM.1 rfl rfl rfl (hq (h (t + 5) ((w32 v1).toNat), r8.2) hh)
      replace hh := OK_f hh hc
      refine ⟨fun hc => ?_, fun hc => ?_⟩
      · replace hh := OK_t hh hc
        refine A_blk hM.1 2 (lv1 := [some (aR t), some (aI v1), some (aI (h (t + 5) ((w32 v1).toNat))), none]) (s1 := [aI 1, aR t]) (h1 := h) rfl ?_
        refine A_callV hM rfl rfl (mem_GW 966 (by decide +kernel) rfl) mi_X10_keepsTop (As := [aI 1]) (rest := []) (ct_X10_keepsTop t 1 h ht (OK_bind hh)) (by decide) ⟨Nat.zero_le _, Nat.zero_le _⟩ rfl rfl (Nat.le_of_ble_eq_true rfl) (tx_l0 ht) (tx_k0 ht) (by decide) rfl (fun r F' h' hq1 => ?_)
        obtain ⟨rfl, r9, rfl, e9, hh⟩ := hq1
        subst h'
        refine A_ifc hM.1 rfl rfl (fun hc => ?_) (fun hc => ?_)
        · replace hh := OK_t hh hc
          refine A_blk hM.1 3 (lv1 := [some (aR t), some (aI v1), some (aI (h (t + 5) ((w32 v1).toNat))), none]) (s1 := [aI (v1 + 1)]) (h1 := r9.2) rfl ?_
          exact A_reti hM.1 rfl rfl rfl (hq (v1 + 1, r9.2) hh)
        · replace hh := OK_f hh hc
          refine A_blk hM.1 1 (lv1 := [some (aR t), some (aI v1), some (aI (h (t + 5) ((w32 v1).toNat))), none]) (s1 := [aI (h (t + 5) ((w32 v1).toNat))]) (h1 := r9.2) rfl ?_
          refine A_go hM.1 rfl rfl ?_
          exact A_reti hM.1 rfl rfl rfl (hq (h (t + 5) ((w32 v1).toNat), r9.2) hh)
      replace hh := OK_f hh hc
      refine A_blk hM.1 1 (lv1 := [some (aR t), some (aI v1), some (aI (h (t + 5) ((w32 v1).toNat))), none]) (s1 := [aR t]) (h1 := h) rfl ?_
      refine A_callV hM rfl rfl (mem_GW 962 (by decide +kernel) rfl) mi_X10_pop (As := []) (rest := []) (ct_X10_pop t h ht (OK_bind hh)) (by decide) ⟨Nat.zero_le _, Nat.zero_le _⟩ rfl rfl (Nat.le_of_ble_eq_true rfl) (tx_l0 ht) (tx_k0 ht) (by decide) rfl (fun r F' h' hq1 => ?_)
      obtain ⟨rfl, r10, rfl, e9, hh⟩ := hq1
      subst h'
      refine A_blk hM.1 4 (lv1 := [some (aR t), some (aI v1), some (aI (h (t + 5) ((w32 v1).toNat))), some (aI r10.1)]) (s1 := [aR t, aR t, aR t]) (h1 := r10.2) rfl ?_
      refine A_gr hM.1 rfl rfl rfl (tx_k0 ht) (tx_l0 ht) (Nat.lt_trans (tx_l4 ht) NF_lt) (tx_r5 ht) rfl ?_
      refine A_blk hM.1 1 (lv1 := [some (aR t), some (aI v1), some (aI (h (t + 5) ((w32 v1).toNat))), some (aI r10.1)]) (s1 := [aI v1, aR (t + 4), aR t, aR t]) (h1 := r10.2) rfl ?_
      obtain ⟨g11, hh⟩ := OK_g hh
      refine A_ald hM.1 rfl (Or.inl ⟨rfl, (tx_k4 ht)⟩) (tx_n4 ht) (tx_l4 ht) rfl g11 ?_
      refine A_blk hM.1 1 (lv1 := [some (aR t), some (aI v1), some (aI (h (t + 5) ((w32 v1).toNat))), some (aI r10.1)]) (s1 := [aR t, aI (r10.2 (t + 4) ((w32 v1).toNat)), aR t, aR t]) (h1 := r10.2) rfl ?_
      refine A_callV hM rfl rfl (mem_GW 962 (by decide +kernel) rfl) mi_X10_pop (As := []) (rest := [aI (r10.2 (t + 4) ((w32 v1).toNat)), aR t, aR t]) (ct_X10_pop t r10.2 ht (OK_bind hh)) (by decide) ⟨Nat.zero_le _, Nat.zero_le _⟩ rfl rfl (Nat.le_of_ble_eq_true rfl) (tx_l0 ht) (tx_k0 ht) (by decide) rfl (fun r F' h' hq1 => ?_)
      obtain ⟨rfl, r12, rfl, e9, hh⟩ := hq1
      subst h'
      refine A_blk hM.1 1 (lv1 := [some (aR t), some (aI v1), some (aI (h (t + 5) ((w32 v1).toNat))), some (aI r10.1)]) (s1 := [aI r10.1, aI r12.1, aI (r10.2 (t + 4) ((w32 v1).toNat)), aR t, aR t]) (h1 := r12.2) rfl ?_
      refine A_callV hM rfl rfl (mem_GW 970 (by decide +kernel) rfl) mi_X10_joined (As := [aI (r10.2 (t + 4) ((w32 v1).toNat)), aI r12.1, aI r10.1]) (rest := [aR t]) (ct_X10_joined t (r10.2 (t + 4) ((w32 v1).toNat)) r12.1 r10.1 r12.2 ht (OK_bind hh)) (by decide) ⟨Nat.zero_le _, Nat.zero_le _⟩ rfl rfl (Nat.le_of_ble_eq_true rfl) (tx_l0 ht) (tx_k0 ht) (by decide) rfl (fun r F' h' hq1 => ?_)
      obtain ⟨rfl, r13, rfl, e9, hh⟩ := hq1
      subst h'
      refine A_callV hM rfl rfl (mem_GW 957 (by decide +kernel) rfl) mi_X10_push (As := [aI r13.1]) (rest := []) (ct_X10_push t r13.1 r13.2 ht (OK_bind hh)) (by decide) ⟨Nat.zero_le _, Nat.zero_le _⟩ rfl rfl (Nat.le_of_ble_eq_true rfl) (tx_l0 ht) (tx_k0 ht) (by decide) rfl (fun r F' h' hq1 => ?_)
      obtain ⟨rfl, rfl, hh⟩ := hq1
      obtain ⟨r14, rfl⟩ : ∃ z, z = h' := ⟨_, rfl⟩
      refine A_blk hM.1 3 (lv1 := [some (aR t), some (aI v1), some (aI (h (t + 5) ((w32 v1).toNat))), some (aI r10.1)]) (s1 := [aI (v1 + 1)]) (h1 := r14) rfl ?_
      exact A_reti hM.1 rfl rfl rfl (hq (v1 + 1, r14) hh)
    · replace hh := OK_f hh hc
      refine A_blk hM.1 1 (lv1 := [some (aR t), some (aI v1), none, none]) (s1 := [aI 160]) (h1 := h) rfl ?_
      exact A_reti hM.1 rfl rfl rfl (hq (160, h) hh)

set_option maxRecDepth 20000 in
set_option maxHeartbeats 4000000 in
theorem ct_X10_step {G : Gx} (t : Nat) (v1 : Int) (h : Hp)  (ht : t ∈ txL) {P : (Int × Hp) → Prop} (hh : OK (X10_step t v1 h) P) : CT G yX10_step M_X10_step 2 0 0 FN h [aR t, aI v1] (fun r F' h' => F' = FN ∧ ∃ z, r = some (aI z.1) ∧ h' = z.2 ∧ P z) :=
  CT.of (by decide +kernel) rfl (Nat.le_of_ble_eq_true rfl) k_X10_step fun k0 _ _ hM => c_X10_step hM t v1 h ht (fun z hz => ⟨rfl, z, rfl, rfl, hz⟩) hh

theorem mi_X10_run : MIv yX10_run M_X10_run 2 := ⟨⟨(mem_GW 952 (by decide +kernel) rfl), (mem_GW 127 (by decide +kernel) rfl), by decide +kernel, by decide +kernel, by decide +kernel, by decide⟩, (mem_GW 951 (by decide +kernel) rfl), (mem_GW 19 (by decide +kernel) rfl)⟩
set_option maxRecDepth 20000 in
set_option maxHeartbeats 4000000 in
theorem c_X10_run_l10 {k0 : K0} {G : Gx} {Qp : Option AV → Fx → Hp → Prop} (hM : MB (KM k0 0 0 Qp) G M_X10_run 3) (t : Nat) (v2 : Int) (x : Int × Int × Hp)  (ht : t ∈ txL) {P : ((Int × Int × Hp) ⊕ ((Hp) ⊕ (Hp))) → Prop} (hin : ∀ y : Int × Int × Hp, P (.inl y) → ATk (KM k0 0 0 Qp) FN 0 0 M_X10_run 10 [some (aR t), none, some (aI v2), some (aI y.1), some (aI y.2.1)] [] y.2.2) (hout0 : ∀ y : Hp, P (.inr (.inl y)) → ATk (KM k0 0 0 Qp) FN 0 0 M_X10_run 23 [none, none, none, none, none] [] y) (hout1 : ∀ y : Hp, P (.inr (.inr y)) → ATk (KM k0 0 0 Qp) FN 0 0 M_X10_run 27 [some (aR t), none, none, none, none] [] y) (hh : OK (X10_run_l10 t v2 x) P) : ATk (KM k0 0 0 Qp) FN 0 0 M_X10_run 10 [some (aR t), none, some (aI v2), some (aI x.1), some (aI x.2.1)] [] x.2.2 := by
  unfold X10_run_l10 at hh
  refine A_blk hM.1 2 (lv1 := [some (aR t), none, some (aI v2), some (aI x.1), some (aI x.2.1)]) (s1 := [aI 160, aI x.2.1]) (h1 := x.2.2) rfl ?_
  refine A_icmp hM.1 rfl rfl (fun hc => ?_) (fun hc => ?_)
  · replace hh := OK_t hh hc
    refine A_mask [true, true, false, false, false] (lv1 := [some (aR t), none, none, none, none]) rfl ?_
    exact hout1 x.2.2 hh
  · replace hh := OK_f hh hc
    refine A_blk hM.1 2 (lv1 := [some (aR t), none, some (aI v2), some (aI x.1), some (aI x.2.1)]) (s1 := [aI v2, aI x.1]) (h1 := x.2.2) rfl ?_
    refine A_icmp hM.1 rfl rfl (fun hc => ?_) (fun hc => ?_)
    · replace hh := OK_t hh hc
      refine A_mask [true, true, false, false, false] (lv1 := [some (aR t), none, none, none, none]) rfl ?_
      exact hout1 x.2.2 hh
    · replace hh := OK_f hh hc
      refine A_blk hM.1 2 (lv1 := [some (aR t), none, some (aI v2), some (aI x.1), some (aI x.2.1)]) (s1 := [aI x.1, aR t]) (h1 := x.2.2) rfl ?_
      refine A_callV hM rfl rfl (mem_GW 953 (by decide +kernel) rfl) mi_X10_step (As := [aI x.1]) (rest := []) (ct_X10_step t x.1 x.2.2 ht (OK_bind hh)) (by decide) ⟨Nat.zero_le _, Nat.zero_le _⟩ rfl rfl (Nat.le_of_ble_eq_true rfl) (tx_l0 ht) (tx_k0 ht) (by decide) rfl (fun r F' h' hq1 => ?_)
      obtain ⟨rfl, r1, rfl, e9, hh⟩ := hq1
      subst h'
      refine A_blk hM.1 2 (lv1 := [some (aR t), none, some (aI v2), some (aI r1.1), some (aI x.2.1)]) (s1 := [aR t]) (h1 := r1.2) rfl ?_
      refine A_gi hM.1 rfl rfl rfl (tx_k0 ht) (tx_l0 ht) rfl ?_
      refine A_ifc hM.1 rfl rfl (fun hc => ?_) (fun hc => ?_)
      · replace hh := OK_t hh hc
        refine A_blk hM.1 1 (lv1 := [some (aR t), none, some (aI v2), some (aI r1.1), some (aI (x.2.1 + 1))]) (s1 := []) (h1 := r1.2) rfl ?_
        refine A_go hM.1 rfl rfl ?_
        exact hin (r1.1, x.2.1 + 1, r1.2) hh
      · replace hh := OK_f hh hc
        refine A_mask [false, true, false, false, false] (lv1 := [none, none, none, none, none]) rfl ?_
        exact hout0 r1.2 hh

set_option maxRecDepth 20000 in
set_option maxHeartbeats 4000000 in
theorem c_X10_run {k0 : K0} {G : Gx} {Qp : Option AV → Fx → Hp → Prop} (hM : MB (KM k0 0 0 Qp) G M_X10_run 3) (t : Nat) (v1 : Int) (v2 : Int) (h : Hp)  (ht : t ∈ txL) {P : (Int × Hp) → Prop} (hq : ∀ z : Int × Hp, P z → Qp (some (aI z.1)) FN z.2) (hh : OK (X10_run t v1 v2 h) P) : ATk (KM k0 0 0 Qp) FN 0 0 M_X10_run 0 [some (aR t), some (aI v1), some (aI v2), none, none] [] h := by
  unfold X10_run at hh
  refine A_blk hM.1 2 (lv1 := [some (aR t), some (aI v1), some (aI v2), none, none]) (s1 := [aI 0, aR t]) (h1 := h) rfl ?_
  refine A_pi hM.1 rfl rfl rfl (tx_k0 ht) (tx_l0 ht) rfl rfl ?_
  refine A_blk hM.1 2 (lv1 := [some (aR t), some (aI v1), some (aI v2), none, none]) (s1 := [aI 0, aR t]) (h1 := setH h t 9 0) rfl ?_
  refine A_putz hM.1 rfl rfl rfl (tx_l0 ht) (tx_k0 ht) rfl rfl (by decide) ?_
  refine A_blk hM.1 4 (lv1 := [some (aR t), some (aI v1), some (aI v2), some (aI v1), some (aI 0)]) (s1 := []) (h1 := setH (setH h t 9 0) t 10 0) rfl ?_
  refine A_mask [true, false, true, true, true] (lv1 := [some (aR t), none, some (aI v2), some (aI v1), some (aI 0)]) rfl ?_
  refine iter_ok (s := (v1, 0, setH (setH h t 9 0) t 10 0)) (Gp := fun z => ATk (KM k0 0 0 Qp) FN 0 0 M_X10_run 10 [some (aR t), none, some (aI v2), some (aI z.1), some (aI z.2.1)] [] z.2.2) (E := fun z => (∀ y, z = (.inl y) → ATk (KM k0 0 0 Qp) FN 0 0 M_X10_run 23 [none, none, none, none, none] [] y) ∧ (∀ y, z = (.inr y) → ATk (KM k0 0 0 Qp) FN 0 0 M_X10_run 27 [some (aR t), none, none, none, none] [] y)) (fun z P1 g1 g2 g3 => c_X10_run_l10 hM t v2 z ht g2 (fun y hy => (g3 (.inl y) hy).1 y rfl) (fun y hy => (g3 (.inr y) hy).2 y rfl) g1) (OK_bind hh) (fun x2 hh => ?_)
  refine ⟨fun y e => ?_, fun y e => ?_⟩
  · obtain ⟨y3, rfl⟩ : ∃ z, z = y := ⟨_, rfl⟩
    subst e
    refine A_blk hM.1 1 (lv1 := [none, none, none, none, none]) (s1 := [aI 0]) (h1 := y3) rfl ?_
    exact A_reti hM.1 rfl rfl rfl (hq (0, y3) hh)
  · obtain ⟨y4, rfl⟩ : ∃ z, z = y := ⟨_, rfl⟩
    subst e
    refine A_blk hM.1 1 (lv1 := [some (aR t), none, none, none, none]) (s1 := [aR t]) (h1 := y4) rfl ?_
    refine A_callV hM rfl rfl (mem_GW 962 (by decide +kernel) rfl) mi_X10_pop (As := []) (rest := []) (ct_X10_pop t y4 ht (OK_bind hh)) (by decide) ⟨Nat.zero_le _, Nat.zero_le _⟩ rfl rfl (Nat.le_of_ble_eq_true rfl) (tx_l0 ht) (tx_k0 ht) (by decide) rfl (fun r F' h' hq1 => ?_)
    obtain ⟨rfl, r5, rfl, e9, hh⟩ := hq1
    subst h'
    exact A_reti hM.1 rfl rfl rfl (hq (r5.1, r5.2) hh)

set_option maxRecDepth 20000 in
set_option maxHeartbeats 4000000 in
theorem ct_X10_run {G : Gx} (t : Nat) (v1 : Int) (v2 : Int) (h : Hp)  (ht : t ∈ txL) {P : (Int × Hp) → Prop} (hh : OK (X10_run t v1 v2 h) P) : CT G yX10_run M_X10_run 3 0 0 FN h [aR t, aI v1, aI v2] (fun r F' h' => F' = FN ∧ ∃ z, r = some (aI z.1) ∧ h' = z.2 ∧ P z) :=
  CT.of (by decide +kernel) rfl (Nat.le_of_ble_eq_true rfl) k_X10_run fun k0 _ _ hM => c_X10_run hM t v1 v2 h ht (fun z hz => ⟨rfl, z, rfl, rfl, hz⟩) hh

theorem mi_X10_value : MIv yX10_value M_X10_value 3 := ⟨⟨(mem_GW 948 (by decide +kernel) rfl), (mem_GW 127 (by decide +kernel) rfl), by decide +kernel, by decide +kernel, by decide +kernel, by decide⟩, (mem_GW 946 (by decide +kernel) rfl), (mem_GW 947 (by decide +kernel) rfl)⟩
set_option maxRecDepth 20000 in
set_option maxHeartbeats 4000000 in
theorem c_X10_value_j41 {k0 : K0} {G : Gx} {Qp : Option AV → Fx → Hp → Prop} (hM : MB (KM k0 0 0 Qp) G M_X10_value 4) (t : Nat) (v1 : Int) (v2 : Int) (v3 : Int) (v5 : Int) (v7 : Int) (h : Hp)  (ht : t ∈ txL) {P : ((Int × Int × Hp) ⊕ ((Int × Int × Hp) ⊕ (Hp))) → Prop} (hin : ∀ y : Int × Int × Hp, P (.inl y) → ATk (KM k0 0 0 Qp) FN 0 0 M_X10_value 4 [some (aR t), some (aI v1), some (aI v2), some (aI v3), some (aI y.1), some (aI y.2.1), none, none] [] y.2.2) (hout0 : ∀ y : Int × Int × Hp, P (.inr (.inl y)) → ATk (KM k0 0 0 Qp) FN 0 0 M_X10_value 32 [some (aR t), none, some (aI v2), some (aI v3), some (aI y.1), none, some (aI y.2.1), none] [] y.2.2) (hout1 : ∀ y : Hp, P (.inr (.inr y)) → ATk (KM k0 0 0 Qp) FN 0 0 M_X10_value 45 [none, none, none, none, none, none, none, none] [] y) (hh : OK (X10_value_j41 t v1 v2 v3 v5 v7 h) P) : ATk (KM k0 0 0 Qp) FN 0 0 M_X10_value 41 [some (aR t), some (aI v1), some (aI v2), some (aI v3), none, some (aI v5), none, some (aI v7)] [] h := by
  unfold X10_value_j41 at hh
  refine A_blk hM.1 3 (lv1 := [some (aR t), some (aI v1), some (aI v2), some (aI v3), some (aI v7), some (aI (v5 + 1)), none, some (aI v7)]) (s1 := []) (h1 := h) rfl ?_
  refine A_go hM.1 rfl rfl ?_
  refine A_mask [true, true, true, true, true, true, true, false] (lv1 := [some (aR t), some (aI v1), some (aI v2), some (aI v3), some (aI v7), some (aI (v5 + 1)), none, none]) rfl ?_
  exact hin (v7, v5 + 1, h) hh

set_option maxRecDepth 20000 in
set_option maxHeartbeats 4000000 in
theorem c_X10_value_l4 {k0 : K0} {G : Gx} {Qp : Option AV → Fx → Hp → Prop} (hM : MB (KM k0 0 0 Qp) G M_X10_value 4) (t : Nat) (v1 : Int) (v2 : Int) (v3 : Int) (x : Int × Int × Hp)  (ht : t ∈ txL) {P : ((Int × Int × Hp) ⊕ ((Int × Int × Hp) ⊕ (Hp))) → Prop} (hin : ∀ y : Int × Int × Hp, P (.inl y) → ATk (KM k0 0 0 Qp) FN 0 0 M_X10_value 4 [some (aR t), some (aI v1), some (aI v2), some (aI v3), some (aI y.1), some (aI y.2.1), none, none] [] y.2.2) (hout0 : ∀ y : Int × Int × Hp, P (.inr (.inl y)) → ATk (KM k0 0 0 Qp) FN 0 0 M_X10_value 32 [some (aR t), none, some (aI v2), some (aI v3), some (aI y.1), none, some (aI y.2.1), none] [] y.2.2) (hout1 : ∀ y : Hp, P (.inr (.inr y)) → ATk (KM k0 0 0 Qp) FN 0 0 M_X10_value 45 [none, none, none, none, none, none, none, none] [] y) (hh : OK (X10_value_l4 t v1 v2 v3 x) P) : ATk (KM k0 0 0 Qp) FN 0 0 M_X10_value 4 [some (aR t), some (aI v1), some (aI v2), some (aI v3), some (aI x.1), some (aI x.2.1), none, none] [] x.2.2 := by
  unfold X10_value_l4 at hh
  refine A_blk hM.1 2 (lv1 := [some (aR t), some (aI v1), some (aI v2), some (aI v3), some (aI x.1), some (aI x.2.1), none, none]) (s1 := [aR t, aI x.2.1]) (h1 := x.2.2) rfl ?_
  refine A_gi hM.1 rfl rfl rfl (tx_k0 ht) (tx_l0 ht) rfl ?_
  refine A_icmp hM.1 rfl rfl (fun hc => ?_) (fun hc => ?_)
  · replace hh := OK_t hh hc
    refine A_mask [false, false, false, false, false, false, true, true] (lv1 := [none, none, none, none, none, none, none, none]) rfl ?_
    exact hout1 x.2.2 hh
  · replace hh := OK_f hh hc
    refine A_blk hM.1 2 (lv1 := [some (aR t), some (aI v1), some (aI v2), some (aI v3), some (aI x.1), some (aI x.2.1), none, none]) (s1 := [aI 12, aI x.2.1]) (h1 := x.2.2) rfl ?_
    refine A_icmp hM.1 rfl rfl (fun hc => ?_) (fun hc => ?_)
    · replace hh := OK_t hh hc
      refine A_mask [false, false, false, false, false, false, true, true] (lv1 := [none, none, none, none, none, none, none, none]) rfl ?_
      exact hout1 x.2.2 hh
    · replace hh := OK_f hh hc
      refine A_blk hM.1 1 (lv1 := [some (aR t), some (aI v1), some (aI v2), some (aI v3), some (aI x.1), some (aI x.2.1), none, none]) (s1 := [aR t]) (h1 := x.2.2) rfl ?_
      refine A_gr hM.1 rfl rfl rfl (tx_k0 ht) (tx_l0 ht) (Nat.lt_trans (tx_l2 ht) NF_lt) (tx_r3 ht) rfl ?_
      refine A_blk hM.1 1 (lv1 := [some (aR t), some (aI v1), some (aI v2), some (aI v3), some (aI x.1), some (aI x.2.1), none, none]) (s1 := [aI x.2.1, aR (t + 2)]) (h1 := x.2.2) rfl ?_
      obtain ⟨g1, hh⟩ := OK_g hh
      refine A_ald hM.1 rfl (Or.inl ⟨rfl, (tx_k2 ht)⟩) (tx_n2 ht) (tx_l2 ht) rfl g1 ?_
      refine A_blk hM.1 2 (lv1 := [some (aR t), some (aI v1), some (aI v2), some (aI v3), some (aI x.1), some (aI x.2.1), some (aI (x.2.2 (t + 2) ((w32 x.2.1).toNat))), none]) (s1 := [aR t]) (h1 := x.2.2) rfl ?_
      refine A_gr hM.1 rfl rfl rfl (tx_k0 ht) (tx_l0 ht) (Nat.lt_trans (tx_l3 ht) NF_lt) (tx_r4 ht) rfl ?_
      refine A_blk hM.1 1 (lv1 := [some (aR t), some (aI v1), some (aI v2), some (aI v3), some (aI x.1), some (aI x.2.1), some (aI (x.2.2 (t + 2) ((w32 x.2.1).toNat))), none]) (s1 := [aI x.2.1, aR (t + 3)]) (h1 := x.2.2) rfl ?_
      obtain ⟨g2, hh⟩ := OK_g hh
      refine A_ald hM.1 rfl (Or.inl ⟨rfl, (tx_k3 ht)⟩) (tx_n3 ht) (tx_l3 ht) rfl g2 ?_
      refine A_blk hM.1 2 (lv1 := [some (aR t), some (aI v1), some (aI v2), some (aI v3), some (aI x.1), some (aI x.2.1), some (aI (x.2.2 (t + 2) ((w32 x.2.1).toNat))), some (aI (x.2.2 (t + 3) ((w32 x.2.1).toNat)))]) (s1 := [aR t]) (h1 := x.2.2) rfl ?_
      refine A_gr hM.1 rfl rfl rfl (tx_k0 ht) (tx_l0 ht) (Nat.lt_trans (tx_l1 ht) NF_lt) (tx_r2 ht) rfl ?_
      refine A_blk hM.1 1 (lv1 := [some (aR t), some (aI v1), some (aI v2), some (aI v3), some (aI x.1), some (aI x.2.1), some (aI (x.2.2 (t + 2) ((w32 x.2.1).toNat))), some (aI (x.2.2 (t + 3) ((w32 x.2.1).toNat)))]) (s1 := [aI x.2.1, aR (t + 1)]) (h1 := x.2.2) rfl ?_
      obtain ⟨g3, hh⟩ := OK_g hh
      refine A_ald hM.1 rfl (Or.inl ⟨rfl, (tx_k1 ht)⟩) (tx_n1 ht) (tx_l1 ht) rfl g3 ?_
      refine A_blk hM.1 1 (lv1 := [some (aR t), some (aI v1), some (aI v2), some (aI v3), some (aI x.1), some (aI x.2.1), some (aI (x.2.2 (t + 2) ((w32 x.2.1).toNat))), some (aI (x.2.2 (t + 3) ((w32 x.2.1).toNat)))]) (s1 := [aI v1, aI (x.2.2 (t + 1) ((w32 x.2.1).toNat))]) (h1 := x.2.2) rfl ?_
      refine A_icmp hM.1 rfl rfl (fun hc => ?_) (fun hc => ?_)
      · replace hh := OK_t hh hc
        refine A_mask [true, true, true, true, false, true, false, true] (lv1 := [some (aR t), some (aI v1), some (aI v2), some (aI v3), none, some (aI x.2.1), none, some (aI (x.2.2 (t + 3) ((w32 x.2.1).toNat)))]) rfl ?_
        exact c_X10_value_j41 hM t v1 v2 v3 x.2.1 (x.2.2 (t + 3) ((w32 x.2.1).toNat)) x.2.2 ht hin hout0 hout1 hh
      · replace hh := OK_f hh hc
        refine A_blk hM.1 3 (lv1 := [some (aR t), some (aI v1), some (aI v2), some (aI v3), some (aI x.1), some (aI x.2.1), some (aI (x.2.2 (t + 2) ((w32 x.2.1).toNat))), some (aI (x.2.2 (t + 3) ((w32 x.2.1).toNat)))]) (s1 := [aI (x.2.2 (t + 3) ((w32 x.2.1).toNat)), aI (x.2.2 (t + 2) ((w32 x.2.1).toNat)), aR t]) (h1 := x.2.2) rfl ?_
        refine A_callV hM rfl rfl (mem_GW 949 (by decide +kernel) rfl) mi_X10_run (As := [aI (x.2.2 (t + 2) ((w32 x.2.1).toNat)), aI (x.2.2 (t + 3) ((w32 x.2.1).toNat))]) (rest := []) (ct_X10_run t (x.2.2 (t + 2) ((w32 x.2.1).toNat)) (x.2.2 (t + 3) ((w32 x.2.1).toNat)) x.2.2 ht (OK_bind hh)) (by decide) ⟨Nat.zero_le _, Nat.zero_le _⟩ rfl rfl (Nat.le_of_ble_eq_true rfl) (tx_l0 ht) (tx_k0 ht) (by decide) rfl (fun r F' h' hq1 => ?_)
        obtain ⟨rfl, r4, rfl, e9, hh⟩ := hq1
        subst h'
        refine A_ifc hM.1 rfl rfl (fun hc => ?_) (fun hc => ?_)
        · replace hh := OK_t hh hc
          refine A_mask [true, true, true, true, false, true, false, true] (lv1 := [some (aR t), some (aI v1), some (aI v2), some (aI v3), none, some (aI x.2.1), none, some (aI (x.2.2 (t + 3) ((w32 x.2.1).toNat)))]) rfl ?_
          exact c_X10_value_j41 hM t v1 v2 v3 x.2.1 (x.2.2 (t + 3) ((w32 x.2.1).toNat)) r4.2 ht hin hout0 hout1 hh
        · replace hh := OK_f hh hc
          refine A_mask [true, false, true, true, true, false, true, false] (lv1 := [some (aR t), none, some (aI v2), some (aI v3), some (aI x.1), none, some (aI (x.2.2 (t + 2) ((w32 x.2.1).toNat))), none]) rfl ?_
          exact hout0 (x.1, x.2.2 (t + 2) ((w32 x.2.1).toNat), r4.2) hh

set_option maxRecDepth 20000 in
set_option maxHeartbeats 4000000 in
theorem c_X10_value {k0 : K0} {G : Gx} {Qp : Option AV → Fx → Hp → Prop} (hM : MB (KM k0 0 0 Qp) G M_X10_value 4) (t : Nat) (v1 : Int) (v2 : Int) (v3 : Int) (h : Hp)  (ht : t ∈ txL) {P : (Int × Hp) → Prop} (hq : ∀ z : Int × Hp, P z → Qp (some (aI z.1)) FN z.2) (hh : OK (X10_value t v1 v2 v3 h) P) : ATk (KM k0 0 0 Qp) FN 0 0 M_X10_value 0 [some (aR t), some (aI v1), some (aI v2), some (aI v3), none, none, none, none] [] h := by
  unfold X10_value at hh
  refine A_blk hM.1 4 (lv1 := [some (aR t), some (aI v1), some (aI v2), some (aI v3), some (aI 0), some (aI 0), none, none]) (s1 := []) (h1 := h) rfl ?_
  refine iter_ok (s := (0, 0, h)) (Gp := fun z => ATk (KM k0 0 0 Qp) FN 0 0 M_X10_value 4 [some (aR t), some (aI v1), some (aI v2), some (aI v3), some (aI z.1), some (aI z.2.1), none, none] [] z.2.2) (E := fun z => (∀ y, z = (.inl y) → ATk (KM k0 0 0 Qp) FN 0 0 M_X10_value 32 [some (aR t), none, some (aI v2), some (aI v3), some (aI y.1), none, some (aI y.2.1), none] [] y.2.2) ∧ (∀ y, z = (.inr y) → ATk (KM k0 0 0 Qp) FN 0 0 M_X10_value 45 [none, none, none, none, none, none, none, none] [] y)) (fun z P1 g1 g2 g3 => c_X10_value_l4 hM t v1 v2 v3 z ht g2 (fun y hy => (g3 (.inl y) hy).1 y rfl) (fun y hy => (g3 (.inr y) hy).2 y rfl) g1) (OK_bind hh) (fun x5 hh => ?_)
  refine ⟨fun y e => ?_, fun y e => ?_⟩
  · obtain ⟨y6, rfl⟩ : ∃ z, z = y := ⟨_, rfl⟩
    subst e
    refine A_blk hM.1 5 (lv1 := [some (aR t), none, some (aI v2), some (aI v3), some (aI y6.1), none, some (aI y6.2.1), none]) (s1 := [aI y6.2.1, aI y6.1, aR t, aI v2, aI v3]) (h1 := y6.2.2) rfl ?_
    refine A_callV hM rfl rfl (mem_GW 949 (by decide +kernel) rfl) mi_X10_run (As := [aI y6.1, aI y6.2.1]) (rest := [aI v2, aI v3]) (ct_X10_run t y6.1 y6.2.1 y6.2.2 ht (OK_bind hh)) (by decide) ⟨Nat.zero_le _, Nat.zero_le _⟩ rfl rfl (Nat.le_of_ble_eq_true rfl) (tx_l0 ht) (tx_k0 ht) (by decide) rfl (fun r F' h' hq1 => ?_)
    obtain ⟨rfl, r7, rfl, e9, hh⟩ := hq1
    subst h'
    refine A_max hM rfl rfl (mem_GW 974 (by decide +kernel) rfl) (by decide) (Nat.le_of_ble_eq_true rfl) ⟨Nat.zero_le _, Nat.zero_le _⟩ ?_
    refine A_min hM rfl rfl (mem_GW 975 (by decide +kernel) rfl) (by decide) (Nat.le_of_ble_eq_true rfl) ⟨Nat.zero_le _, Nat.zero_le _⟩ ?_
    exact A_reti hM.1 rfl rfl rfl (hq (minI v3 (maxI v2 r7.1), r7.2) hh)
  · obtain ⟨y8, rfl⟩ : ∃ z, z = y := ⟨_, rfl⟩
    subst e
    refine A_blk hM.1 1 (lv1 := [none, none, none, none, none, none, none, none]) (s1 := [aI 0]) (h1 := y8) rfl ?_
    exact A_reti hM.1 rfl rfl rfl (hq (0, y8) hh)

set_option maxRecDepth 20000 in
set_option maxHeartbeats 4000000 in
theorem ct_X10_value {G : Gx} (t : Nat) (v1 : Int) (v2 : Int) (v3 : Int) (h : Hp)  (ht : t ∈ txL) {P : (Int × Hp) → Prop} (hh : OK (X10_value t v1 v2 v3 h) P) : CT G yX10_value M_X10_value 4 0 0 FN h [aR t, aI v1, aI v2, aI v3] (fun r F' h' => F' = FN ∧ ∃ z, r = some (aI z.1) ∧ h' = z.2 ∧ P z) :=
  CT.of (by decide +kernel) rfl (Nat.le_of_ble_eq_true rfl) k_X10_value fun k0 _ _ hM => c_X10_value hM t v1 v2 v3 h ht (fun z hz => ⟨rfl, z, rfl, rfl, hz⟩) hh

theorem mi_X11_quoteWord : MIv yX11_quoteWord M_X11_quoteWord 3 := ⟨⟨(mem_GW 981 (by decide +kernel) rfl), (mem_GW 123 (by decide +kernel) rfl), by decide +kernel, by decide +kernel, by decide +kernel, by decide⟩, (mem_GW 980 (by decide +kernel) rfl), (mem_GW 25 (by decide +kernel) rfl)⟩
set_option maxRecDepth 20000 in
set_option maxHeartbeats 4000000 in
theorem c_X11_quoteWord_j43 {k0 : K0} {G : Gx} {Qp : Option AV → Fx → Hp → Prop} (hM : MB (KM k0 0 0 Qp) G M_X11_quoteWord 5) (t : Nat) (s1 : Int) (s2 : Int) (h : Hp)  (ht : t ∈ txL) {P : Hp → Prop} (hq : ∀ z : Hp, P z → Qp none FN z) (hh : OK (X11_quoteWord_j43 t s1 s2 h) P) : ATk (KM k0 0 0 Qp) FN 0 0 M_X11_quoteWord 43 [some (aR 0), none, none, none, none, none] [aI s2, aI s1, aR 85] h := by
  unfold X11_quoteWord_j43 at hh
  obtain ⟨g3, hh⟩ := OK_g hh
  refine A_ast hM.1 rfl (Or.inl ⟨rfl, rfl, rfl⟩) rfl rfl rfl g3 ?_
  refine A_blk hM.1 6 (lv1 := [some (aR 0), none, none, none, none, none]) (s1 := []) (h1 := setH (setH h 85 ((w32 s1).toNat) s2) 0 14 ((h 0 14) + 1)) rfl ?_
  exact A_retv hM.1 rfl rfl rfl (hq (setH (setH h 85 ((w32 s1).toNat) s2) 0 14 ((h 0 14) + 1)) hh)

set_option maxRecDepth 20000 in
set_option maxHeartbeats 4000000 in
theorem c_X11_quoteWord_j29 {k0 : K0} {G : Gx} {Qp : Option AV → Fx → Hp → Prop} (hM : MB (KM k0 0 0 Qp) G M_X11_quoteWord 5) (t : Nat) (v2 : Int) (s0 : Int) (h : Hp)  (ht : t ∈ txL) {P : Hp → Prop} (hq : ∀ z : Hp, P z → Qp none FN z) (hh : OK (X11_quoteWord_j29 t v2 s0 h) P) : ATk (KM k0 0 0 Qp) FN 0 0 M_X11_quoteWord 29 [some (aR 0), none, some (aI v2), none, none, none] [aI s0] h := by
  unfold X11_quoteWord_j29 at hh
  refine A_blk hM.1 6 (lv1 := [some (aR 0), none, some (aI v2), none, none, some (aI s0)]) (s1 := [aI s0, aI (h 0 14), aR 85]) (h1 := h) rfl ?_
  refine A_ifc hM.1 rfl rfl (fun hc => ?_) (fun hc => ?_)
  · replace hh := OK_t hh hc
    refine A_blk hM.1 1 (lv1 := [some (aR 0), none, some (aI v2), none, none, some (aI s0)]) (s1 := [aI v2, aI (h 0 14), aR 85]) (h1 := h) rfl ?_
    refine A_mask [true, true, false, true, true, false] (lv1 := [some (aR 0), none, none, none, none, none]) rfl ?_
    exact c_X11_quoteWord_j43 hM t (h 0 14) v2 h ht hq hh
  · replace hh := OK_f hh hc
    refine A_blk hM.1 4 (lv1 := [some (aR 0), none, some (aI v2), none, none, some (aI s0)]) (s1 := [aI 64, aI (v2 + 1), aI (h 0 14), aR 85]) (h1 := h) rfl ?_
    obtain ⟨g4, hh⟩ := OK_g hh
    refine A_irem hM.1 rfl rfl g4 ?_
    refine A_go hM.1 rfl rfl ?_
    refine A_mask [true, true, false, true, true, false] (lv1 := [some (aR 0), none, none, none, none, none]) rfl ?_
    exact c_X11_quoteWord_j43 hM t (h 0 14) (rem32 (v2 + 1) 64) h ht hq hh

set_option maxRecDepth 20000 in
set_option maxHeartbeats 4000000 in
theorem c_X11_quoteWord {k0 : K0} {G : Gx} {Qp : Option AV → Fx → Hp → Prop} (hM : MB (KM k0 0 0 Qp) G M_X11_quoteWord 5) (t : Nat) (v2 : Int) (v3 : Int) (h : Hp)  (ht : t ∈ txL) {P : Hp → Prop} (hq : ∀ z : Hp, P z → Qp none FN z) (hh : OK (X11_quoteWord t v2 v3 h) P) : ATk (KM k0 0 0 Qp) FN 0 0 M_X11_quoteWord 0 [some (aR 0), some (aR t), some (aI v2), some (aI v3), none, none] [] h := by
  unfold X11_quoteWord at hh
  refine A_blk hM.1 4 (lv1 := [some (aR 0), some (aR t), some (aI v2), some (aI v3), none, none]) (s1 := [aI 1000, aI 0, aI 100, aR t]) (h1 := h) rfl ?_
  refine A_callV hM rfl rfl (mem_GW 945 (by decide +kernel) rfl) mi_X10_value (As := [aI 100, aI 0, aI 1000]) (rest := []) (ct_X10_value t 100 0 1000 h ht (OK_bind hh)) (by decide) ⟨Nat.zero_le _, Nat.zero_le _⟩ rfl rfl (Nat.le_of_ble_eq_true rfl) (tx_l0 ht) (tx_k0 ht) (by decide) rfl (fun r F' h' hq1 => ?_)
  obtain ⟨rfl, r1, rfl, e9, hh⟩ := hq1
  subst h'
  refine A_blk hM.1 3 (lv1 := [some (aR 0), some (aR t), some (aI v2), some (aI v3), some (aI r1.1), none]) (s1 := [aI r1.1, aI v3]) (h1 := r1.2) rfl ?_
  refine A_icmp hM.1 rfl rfl (fun hc => ?_) (fun hc => ?_)
  · replace hh := OK_t hh hc
    exact A_retv hM.1 rfl rfl rfl (hq r1.2 hh)
  · replace hh := OK_f hh hc
    refine A_blk hM.1 2 (lv1 := [some (aR 0), some (aR t), some (aI v2), some (aI v3), some (aI r1.1), none]) (s1 := [aI (r1.2 0 14)]) (h1 := r1.2) rfl ?_
    refine A_ifc hM.1 rfl rfl (fun hc => ?_) (fun hc => ?_)
    · replace hh := OK_t hh hc
      exact A_retv hM.1 rfl rfl rfl (hq r1.2 hh)
    · replace hh := OK_f hh hc
      refine A_blk hM.1 3 (lv1 := [some (aR 0), some (aR t), some (aI v2), some (aI v3), some (aI r1.1), none]) (s1 := [aI 8, aI (r1.2 0 14)]) (h1 := r1.2) rfl ?_
      refine A_icmp hM.1 rfl rfl (fun hc => ?_) (fun hc => ?_)
      · replace hh := OK_t hh hc
        refine A_blk hM.1 6 (lv1 := [some (aR 0), some (aR t), some (aI v2), some (aI v3), some (aI r1.1), none]) (s1 := [aI 1000, aI 0, aI 99, aR t, aI r1.1, aI v3]) (h1 := r1.2) rfl ?_
        refine A_callV hM rfl rfl (mem_GW 945 (by decide +kernel) rfl) mi_X10_value (As := [aI 99, aI 0, aI 1000]) (rest := [aI r1.1, aI v3]) (ct_X10_value t 99 0 1000 r1.2 ht (OK_bind hh)) (by decide) ⟨Nat.zero_le _, Nat.zero_le _⟩ rfl rfl (Nat.le_of_ble_eq_true rfl) (tx_l0 ht) (tx_k0 ht) (by decide) rfl (fun r F' h' hq1 => ?_)
        obtain ⟨rfl, r2, rfl, e9, hh⟩ := hq1
        subst h'
        refine A_blk hM.1 1 (lv1 := [some (aR 0), some (aR t), some (aI v2), some (aI v3), some (aI r1.1), none]) (s1 := [aI (r1.1 + r2.1), aI v3]) (h1 := r2.2) rfl ?_
        refine A_icmp hM.1 rfl rfl (fun hc => ?_) (fun hc => ?_)
        · replace hh := OK_t hh hc
          refine A_blk hM.1 1 (lv1 := [some (aR 0), some (aR t), some (aI v2), some (aI v3), some (aI r1.1), none]) (s1 := [aI 0]) (h1 := r2.2) rfl ?_
          refine A_mask [true, false, true, false, false, true] (lv1 := [some (aR 0), none, some (aI v2), none, none, none]) rfl ?_
          exact c_X11_quoteWord_j29 hM t v2 0 r2.2 ht hq hh
        · replace hh := OK_f hh hc
          refine A_blk hM.1 1 (lv1 := [some (aR 0), some (aR t), some (aI v2), some (aI v3), some (aI r1.1), none]) (s1 := [aI 1]) (h1 := r2.2) rfl ?_
          refine A_go hM.1 rfl rfl ?_
          refine A_mask [true, false, true, false, false, true] (lv1 := [some (aR 0), none, some (aI v2), none, none, none]) rfl ?_
          exact c_X11_quoteWord_j29 hM t v2 1 r2.2 ht hq hh
      · replace hh := OK_f hh hc
        exact A_retv hM.1 rfl rfl rfl (hq r1.2 hh)

set_option maxRecDepth 20000 in
set_option maxHeartbeats 4000000 in
theorem ct_X11_quoteWord {G : Gx} (t : Nat) (v2 : Int) (v3 : Int) (h : Hp)  (ht : t ∈ txL) {P : Hp → Prop} (hh : OK (X11_quoteWord t v2 v3 h) P) : CT G yX11_quoteWord M_X11_quoteWord 5 0 0 FN h [aR 0, aR t, aI v2, aI v3] (fun r F' h' => F' = FN ∧ r = none ∧ P h') :=
  CT.of (by decide +kernel) rfl (Nat.le_of_ble_eq_true rfl) k_X11_quoteWord fun k0 _ _ hM => c_X11_quoteWord hM t v2 v3 h ht (fun z hz => ⟨rfl, rfl, hz⟩) hh

theorem mi_X11_quoteWords : MIv yX11_quoteWords M_X11_quoteWords 4 := ⟨⟨(mem_GW 936 (by decide +kernel) rfl), (mem_GW 123 (by decide +kernel) rfl), by decide +kernel, by decide +kernel, by decide +kernel, by decide⟩, (mem_GW 935 (by decide +kernel) rfl), (mem_GW 18 (by decide +kernel) rfl)⟩
set_option maxRecDepth 20000 in
set_option maxHeartbeats 4000000 in
theorem c_X11_quoteWords_j74 {k0 : K0} {G : Gx} {Qp : Option AV → Fx → Hp → Prop} (hM : MB (KM k0 0 0 Qp) G M_X11_quoteWords 6) (t : Nat) (v2 : Int) (v3 : Int) (v4 : Int) (v5 : Int) (v6 : Int) (v7 : Int) (v8 : Int) (h : Hp)  (ht : t ∈ txL) {P : ((Int × Int × Hp) ⊕ (Int × Hp)) → Prop} (hin : ∀ y : Int × Int × Hp, P (.inl y) → ATk (KM k0 0 0 Qp) FN 0 0 M_X11_quoteWords 7 [some (aR 0), some (aR t), some (aI v2), some (aI v3), some (aI v4), some (aI y.1), some (aI y.2.1), none, none, none] [] y.2.2) (hout0 : ∀ y : Int × Hp, P (.inr y) → ATk (KM k0 0 0 Qp) FN 0 0 M_X11_quoteWords 81 [none, none, none, none, none, some (aI y.1), none, none, none, none] [] y.2) (hh : OK (X11_quoteWords_j74 t v2 v3 v4 v5 v6 v7 v8 h) P) : ATk (KM k0 0 0 Qp) FN 0 0 M_X11_quoteWords 74 [some (aR 0), some (aR t), some (aI v2), some (aI v3), some (aI v4), some (aI v5), some (aI v6), some (aI v7), some (aI v8), none] [] h := by
  unfold X11_quoteWords_j74 at hh
  refine A_blk hM.1 4 (lv1 := [some (aR 0), some (aR t), some (aI v2), some (aI v3), some (aI v4), some (aI v5), some (aI v6), some (aI v7), some (aI v8), none]) (s1 := [aI v8, aI v7, aR t, aR 0]) (h1 := h) rfl ?_
  refine A_callV hM rfl rfl (mem_GW 978 (by decide +kernel) rfl) mi_X11_quoteWord (As := [aR t, aI v7, aI v8]) (rest := []) (ct_X11_quoteWord t v7 v8 h ht (OK_bind hh)) (by decide) ⟨Nat.zero_le _, Nat.zero_le _⟩ rfl rfl (Nat.le_of_ble_eq_true rfl) (by decide) rfl (by decide) rfl (fun r F' h' hq1 => ?_)
  obtain ⟨rfl, rfl, hh⟩ := hq1
  obtain ⟨r8, rfl⟩ : ∃ z, z = h' := ⟨_, rfl⟩
  refine A_blk hM.1 1 (lv1 := [some (aR 0), some (aR t), some (aI v2), some (aI v3), some (aI v4), some (aI v5), some (aI (v6 + 1)), some (aI v7), some (aI v8), none]) (s1 := []) (h1 := r8) rfl ?_
  refine A_go hM.1 rfl rfl ?_
  refine A_mask [true, true, true, true, true, true, true, false, false, true] (lv1 := [some (aR 0), some (aR t), some (aI v2), some (aI v3), some (aI v4), some (aI v5), some (aI (v6 + 1)), none, none, none]) rfl ?_
  exact hin (v5, v6 + 1, r8) hh

set_option maxRecDepth 20000 in
set_option maxHeartbeats 4000000 in
theorem c_X11_quoteWords_l7 {k0 : K0} {G : Gx} {Qp : Option AV → Fx → Hp → Prop} (hM : MB (KM k0 0 0 Qp) G M_X11_quoteWords 6) (t : Nat) (v2 : Int) (v3 : Int) (v4 : Int) (x : Int × Int × Hp)  (ht : t ∈ txL) {P : ((Int × Int × Hp) ⊕ (Int × Hp)) → Prop} (hin : ∀ y : Int × Int × Hp, P (.inl y) → ATk (KM k0 0 0 Qp) FN 0 0 M_X11_quoteWords 7 [some (aR 0), some (aR t), some (aI v2), some (aI v3), some (aI v4), some (aI y.1), some (aI y.2.1), none, none, none] [] y.2.2) (hout0 : ∀ y : Int × Hp, P (.inr y) → ATk (KM k0 0 0 Qp) FN 0 0 M_X11_quoteWords 81 [none, none, none, none, none, some (aI y.1), none, none, none, none] [] y.2) (hh : OK (X11_quoteWords_l7 t v2 v3 v4 x) P) : ATk (KM k0 0 0 Qp) FN 0 0 M_X11_quoteWords 7 [some (aR 0), some (aR t), some (aI v2), some (aI v3), some (aI v4), some (aI x.1), some (aI x.2.1), none, none, none] [] x.2.2 := by
  unfold X11_quoteWords_l7 at hh
  refine A_blk hM.1 2 (lv1 := [some (aR 0), some (aR t), some (aI v2), some (aI v3), some (aI v4), some (aI x.1), some (aI x.2.1), none, none, none]) (s1 := [aI v4, aI x.2.1]) (h1 := x.2.2) rfl ?_
  refine A_icmp hM.1 rfl rfl (fun hc => ?_) (fun hc => ?_)
  · replace hh := OK_t hh hc
    refine A_mask [false, false, false, false, false, true, false, true, true, true] (lv1 := [none, none, none, none, none, some (aI x.1), none, none, none, none]) rfl ?_
    exact hout0 (x.1, x.2.2) hh
  · replace hh := OK_f hh hc
    refine A_blk hM.1 4 (lv1 := [some (aR 0), some (aR t), some (aI v2), some (aI v3), some (aI v4), some (aI x.1), some (aI x.2.1), none, none, none]) (s1 := [aI x.2.1, aI v2, aR 3]) (h1 := x.2.2) rfl ?_
    refine A_callV hM rfl rfl (mem_GW 937 (by decide +kernel) rfl) mi_X7_workWord (As := [aI v2, aI x.2.1]) (rest := []) (ct_X7_workWord v2 x.2.1 x.2.2 (OK_bind hh)) (by decide) ⟨Nat.zero_le _, Nat.zero_le _⟩ rfl rfl (Nat.le_of_ble_eq_true rfl) (by decide) rfl (by decide) rfl (fun r F' h' hq1 => ?_)
    obtain ⟨rfl, r1, rfl, e9, hh⟩ := hq1
    subst h'
    refine A_blk hM.1 14 (lv1 := [some (aR 0), some (aR t), some (aI v2), some (aI v3), some (aI v4), some (aI x.1), some (aI x.2.1), some (aI r1), none, none]) (s1 := [aI 1000, aI (and32 ((25173 * (x.2.2 0 15)) + 13849) 65535)]) (h1 := setH x.2.2 0 15 (and32 ((25173 * (x.2.2 0 15)) + 13849) 65535)) rfl ?_
    obtain ⟨g2, hh⟩ := OK_g hh
    refine A_irem hM.1 rfl rfl g2 ?_
    refine A_blk hM.1 4 (lv1 := [some (aR 0), some (aR t), some (aI v2), some (aI v3), some (aI v4), some (aI x.1), some (aI x.2.1), some (aI r1), some (aI (rem32 (and32 ((25173 * (x.2.2 0 15)) + 13849) 65535) 1000)), none]) (s1 := [aI r1, aI 119, aR t]) (h1 := setH x.2.2 0 15 (and32 ((25173 * (x.2.2 0 15)) + 13849) 65535)) rfl ?_
    refine A_callV hM rfl rfl (mem_GW 925 (by decide +kernel) rfl) mi_X10_let (As := [aI 119, aI r1]) (rest := []) (ct_X10_let t 119 r1 (setH x.2.2 0 15 (and32 ((25173 * (x.2.2 0 15)) + 13849) 65535)) ht (OK_bind hh)) (by decide) ⟨Nat.zero_le _, Nat.zero_le _⟩ rfl rfl (Nat.le_of_ble_eq_true rfl) (tx_l0 ht) (tx_k0 ht) (by decide) rfl (fun r F' h' hq1 => ?_)
    obtain ⟨rfl, rfl, hh⟩ := hq1
    obtain ⟨r3, rfl⟩ : ∃ z, z = h' := ⟨_, rfl⟩
    refine A_blk hM.1 5 (lv1 := [some (aR 0), some (aR t), some (aI v2), some (aI v3), some (aI v4), some (aI x.1), some (aI x.2.1), some (aI r1), some (aI (rem32 (and32 ((25173 * (x.2.2 0 15)) + 13849) 65535) 1000)), none]) (s1 := [aI (x.2.1 - v3), aI 105, aR t]) (h1 := r3) rfl ?_
    refine A_callV hM rfl rfl (mem_GW 925 (by decide +kernel) rfl) mi_X10_let (As := [aI 105, aI (x.2.1 - v3)]) (rest := []) (ct_X10_let t 105 (x.2.1 - v3) r3 ht (OK_bind hh)) (by decide) ⟨Nat.zero_le _, Nat.zero_le _⟩ rfl rfl (Nat.le_of_ble_eq_true rfl) (tx_l0 ht) (tx_k0 ht) (by decide) rfl (fun r F' h' hq1 => ?_)
    obtain ⟨rfl, rfl, hh⟩ := hq1
    obtain ⟨r4, rfl⟩ : ∃ z, z = h' := ⟨_, rfl⟩
    refine A_blk hM.1 6 (lv1 := [some (aR 0), some (aR t), some (aI v2), some (aI v3), some (aI v4), some (aI x.1), some (aI x.2.1), some (aI r1), some (aI (rem32 (and32 ((25173 * (x.2.2 0 15)) + 13849) 65535) 1000)), none]) (s1 := [aI x.2.1, aI v2, aR 3, aI 98, aR t]) (h1 := r4) rfl ?_
    refine A_callV hM rfl rfl (mem_GW 941 (by decide +kernel) rfl) mi_X7_workBook (As := [aI v2, aI x.2.1]) (rest := [aI 98, aR t]) (ct_X7_workBook v2 x.2.1 r4 (OK_bind hh)) (by decide) ⟨Nat.zero_le _, Nat.zero_le _⟩ rfl rfl (Nat.le_of_ble_eq_true rfl) (by decide) rfl (by decide) rfl (fun r F' h' hq1 => ?_)
    obtain ⟨rfl, r5, rfl, e9, hh⟩ := hq1
    subst h'
    refine A_callV hM rfl rfl (mem_GW 925 (by decide +kernel) rfl) mi_X10_let (As := [aI 98, aI r5]) (rest := []) (ct_X10_let t 98 r5 r4 ht (OK_bind hh)) (by decide) ⟨Nat.zero_le _, Nat.zero_le _⟩ rfl rfl (Nat.le_of_ble_eq_true rfl) (tx_l0 ht) (tx_k0 ht) (by decide) rfl (fun r F' h' hq1 => ?_)
    obtain ⟨rfl, rfl, hh⟩ := hq1
    obtain ⟨r6, rfl⟩ : ∃ z, z = h' := ⟨_, rfl⟩
    refine A_blk hM.1 3 (lv1 := [some (aR 0), some (aR t), some (aI v2), some (aI v3), some (aI v4), some (aI x.1), some (aI x.2.1), some (aI r1), some (aI (rem32 (and32 ((25173 * (x.2.2 0 15)) + 13849) 65535) 1000)), none]) (s1 := [aI (rem32 (and32 ((25173 * (x.2.2 0 15)) + 13849) 65535) 1000), aI 120, aR t]) (h1 := r6) rfl ?_
    refine A_callV hM rfl rfl (mem_GW 925 (by decide +kernel) rfl) mi_X10_let (As := [aI 120, aI (rem32 (and32 ((25173 * (x.2.2 0 15)) + 13849) 65535) 1000)]) (rest := []) (ct_X10_let t 120 (rem32 (and32 ((25173 * (x.2.2 0 15)) + 13849) 65535) 1000) r6 ht (OK_bind hh)) (by decide) ⟨Nat.zero_le _, Nat.zero_le _⟩ rfl rfl (Nat.le_of_ble_eq_true rfl) (tx_l0 ht) (tx_k0 ht) (by decide) rfl (fun r F' h' hq1 => ?_)
    obtain ⟨rfl, rfl, hh⟩ := hq1
    obtain ⟨r7, rfl⟩ : ∃ z, z = h' := ⟨_, rfl⟩
    refine A_blk hM.1 2 (lv1 := [some (aR 0), some (aR t), some (aI v2), some (aI v3), some (aI v4), some (aI x.1), some (aI x.2.1), some (aI r1), some (aI (rem32 (and32 ((25173 * (x.2.2 0 15)) + 13849) 65535) 1000)), none]) (s1 := [aI v3, aI x.2.1]) (h1 := r7) rfl ?_
    refine A_icmp hM.1 rfl rfl (fun hc => ?_) (fun hc => ?_)
    · replace hh := OK_t hh hc
      exact c_X11_quoteWords_j74 hM t v2 v3 v4 x.1 x.2.1 r1 (rem32 (and32 ((25173 * (x.2.2 0 15)) + 13849) 65535) 1000) r7 ht hin hout0 hh
    · replace hh := OK_f hh hc
      refine A_blk hM.1 4 (lv1 := [some (aR 0), some (aR t), some (aI v2), some (aI v3), some (aI v4), some (aI x.1), some (aI x.2.1), some (aI r1), some (aI (rem32 (and32 ((25173 * (x.2.2 0 15)) + 13849) 65535) 1000)), none]) (s1 := [aI x.2.1, aI v2, aR 3]) (h1 := r7) rfl ?_
      refine A_callV hM rfl rfl (mem_GW 941 (by decide +kernel) rfl) mi_X7_workBook (As := [aI v2, aI x.2.1]) (rest := []) (ct_X7_workBook v2 x.2.1 r7 (OK_bind hh)) (by decide) ⟨Nat.zero_le _, Nat.zero_le _⟩ rfl rfl (Nat.le_of_ble_eq_true rfl) (by decide) rfl (by decide) rfl (fun r F' h' hq1 => ?_)
      obtain ⟨rfl, r9, rfl, e9, hh⟩ := hq1
      subst h'
      refine A_blk hM.1 4 (lv1 := [some (aR 0), some (aR t), some (aI v2), some (aI v3), some (aI v4), some (aI x.1), some (aI x.2.1), some (aI r1), some (aI (rem32 (and32 ((25173 * (x.2.2 0 15)) + 13849) 65535) 1000)), none]) (s1 := [aI 9, aI (-9), aI 110, aR t, aI r9]) (h1 := r7) rfl ?_
      refine A_callV hM rfl rfl (mem_GW 945 (by decide +kernel) rfl) mi_X10_value (As := [aI 110, aI (-9), aI 9]) (rest := [aI r9]) (ct_X10_value t 110 (-9) 9 r7 ht (OK_bind hh)) (by decide) ⟨Nat.zero_le _, Nat.zero_le _⟩ rfl rfl (Nat.le_of_ble_eq_true rfl) (tx_l0 ht) (tx_k0 ht) (by decide) rfl (fun r F' h' hq1 => ?_)
      obtain ⟨rfl, r10, rfl, e9, hh⟩ := hq1
      subst h'
      refine A_blk hM.1 5 (lv1 := [some (aR 0), some (aR t), some (aI v2), some (aI v3), some (aI v4), some (aI x.1), some (aI x.2.1), some (aI r1), some (aI (rem32 (and32 ((25173 * (x.2.2 0 15)) + 13849) 65535) 1000)), some (aI (r9 + r10.1))]) (s1 := [aI (r9 + r10.1), aI 1, aI 40]) (h1 := r10.2) rfl ?_
      refine A_max hM rfl rfl (mem_GW 976 (by decide +kernel) rfl) (by decide) (Nat.le_of_ble_eq_true rfl) ⟨Nat.zero_le _, Nat.zero_le _⟩ ?_
      refine A_min hM rfl rfl (mem_GW 977 (by decide +kernel) rfl) (by decide) (Nat.le_of_ble_eq_true rfl) ⟨Nat.zero_le _, Nat.zero_le _⟩ ?_
      refine A_blk hM.1 1 (lv1 := [some (aR 0), some (aR t), some (aI v2), some (aI v3), some (aI v4), some (aI (minI 40 (maxI 1 (r9 + r10.1)))), some (aI x.2.1), some (aI r1), some (aI (rem32 (and32 ((25173 * (x.2.2 0 15)) + 13849) 65535) 1000)), some (aI (r9 + r10.1))]) (s1 := []) (h1 := r10.2) rfl ?_
      refine A_mask [true, true, true, true, true, true, true, true, true, false] (lv1 := [some (aR 0), some (aR t), some (aI v2), some (aI v3), some (aI v4), some (aI (minI 40 (maxI 1 (r9 + r10.1)))), some (aI x.2.1), some (aI r1), some (aI (rem32 (and32 ((25173 * (x.2.2 0 15)) + 13849) 65535) 1000)), none]) rfl ?_
      exact c_X11_quoteWords_j74 hM t v2 v3 v4 (minI 40 (maxI 1 (r9 + r10.1))) x.2.1 r1 (rem32 (and32 ((25173 * (x.2.2 0 15)) + 13849) 65535) 1000) r10.2 ht hin hout0 hh

set_option maxRecDepth 20000 in
set_option maxHeartbeats 4000000 in
theorem c_X11_quoteWords {k0 : K0} {G : Gx} {Qp : Option AV → Fx → Hp → Prop} (hM : MB (KM k0 0 0 Qp) G M_X11_quoteWords 6) (t : Nat) (v2 : Int) (v3 : Int) (v4 : Int) (h : Hp)  (ht : t ∈ txL) {P : (Int × Hp) → Prop} (hq : ∀ z : Int × Hp, P z → Qp (some (aI z.1)) FN z.2) (hh : OK (X11_quoteWords t v2 v3 v4 h) P) : ATk (KM k0 0 0 Qp) FN 0 0 M_X11_quoteWords 0 [some (aR 0), some (aR t), some (aI v2), some (aI v3), some (aI v4), none, none, none, none, none] [] h := by
  unfold X11_quoteWords at hh
  refine A_blk hM.1 7 (lv1 := [some (aR 0), some (aR t), some (aI v2), some (aI v3), some (aI v4), some (aI 0), some (aI v3), none, none, none]) (s1 := []) (h1 := setH h 0 14 0) rfl ?_
  refine iter_ok (s := (0, v3, setH h 0 14 0)) (Gp := fun z => ATk (KM k0 0 0 Qp) FN 0 0 M_X11_quoteWords 7 [some (aR 0), some (aR t), some (aI v2), some (aI v3), some (aI v4), some (aI z.1), some (aI z.2.1), none, none, none] [] z.2.2) (E := fun z => ATk (KM k0 0 0 Qp) FN 0 0 M_X11_quoteWords 81 [none, none, none, none, none, some (aI z.1), none, none, none, none] [] z.2) (fun z P1 g1 g2 g3 => c_X11_quoteWords_l7 hM t v2 v3 v4 z ht g2 g3 g1) (OK_bind hh) (fun x11 hh => ?_)
  refine A_blk hM.1 1 (lv1 := [none, none, none, none, none, some (aI x11.1), none, none, none, none]) (s1 := [aI x11.1]) (h1 := x11.2) rfl ?_
  exact A_reti hM.1 rfl rfl rfl (hq (x11.1, x11.2) hh)

set_option maxRecDepth 20000 in
set_option maxHeartbeats 4000000 in
theorem ct_X11_quoteWords {G : Gx} (t : Nat) (v2 : Int) (v3 : Int) (v4 : Int) (h : Hp)  (ht : t ∈ txL) {P : (Int × Hp) → Prop} (hh : OK (X11_quoteWords t v2 v3 v4 h) P) : CT G yX11_quoteWords M_X11_quoteWords 6 0 0 FN h [aR 0, aR t, aI v2, aI v3, aI v4] (fun r F' h' => F' = FN ∧ ∃ z, r = some (aI z.1) ∧ h' = z.2 ∧ P z) :=
  CT.of (by decide +kernel) rfl (Nat.le_of_ble_eq_true rfl) k_X11_quoteWords fun k0 _ _ hM => c_X11_quoteWords hM t v2 v3 v4 h ht (fun z hz => ⟨rfl, z, rfl, rfl, hz⟩) hh

theorem mi_X11_quote : MIv yX11_quote M_X11_quote 5 := ⟨⟨(mem_GW 920 (by decide +kernel) rfl), (mem_GW 123 (by decide +kernel) rfl), by decide +kernel, by decide +kernel, by decide +kernel, by decide⟩, (mem_GW 918 (by decide +kernel) rfl), (mem_GW 919 (by decide +kernel) rfl)⟩
set_option maxRecDepth 20000 in
set_option maxHeartbeats 4000000 in
theorem c_X11_quote {k0 : K0} {G : Gx} {Qp : Option AV → Fx → Hp → Prop} (hM : MB (KM k0 0 0 Qp) G M_X11_quote 7) (v1 : Int) (v2 : Int) (v3 : Int) (v4 : Int) (v5 : Int) (h : Hp)   {P : (Int × Hp) → Prop} (hq : ∀ z : Int × Hp, P z → Qp (some (aI z.1)) FN z.2) (hh : OK (X11_quote v1 v2 v3 v4 v5 h) P) : ATk (KM k0 0 0 Qp) FN 0 0 M_X11_quote 0 [some (aR 0), some (aI v1), some (aI v2), some (aI v3), some (aI v4), some (aI v5), none, none] [] h := by
  unfold X11_quote at hh
  refine A_blk hM.1 2 (lv1 := [some (aR 0), some (aI v1), some (aI v2), some (aI v3), some (aI v4), some (aI v5), none, none]) (s1 := [aI v1, aR 0]) (h1 := h) rfl ?_
  refine A_callV hM rfl rfl (mem_GW 703 (by decide +kernel) rfl) mi_X11_wayOf (As := [aI v1]) (rest := []) (ct_X11_wayOf v1 h (OK_bind hh)) (by decide) ⟨Nat.zero_le _, Nat.zero_le _⟩ rfl rfl (Nat.le_of_ble_eq_true rfl) (by decide) rfl (by decide) rfl (fun r F' h' hq1 => ?_)
  obtain ⟨rfl, r1, rfl, e9, hh⟩ := hq1
  subst h'
  obtain ⟨ho2, hh⟩ := OK_g hh
  refine A_blk hM.1 2 (lv1 := [some (aR 0), some (aI v1), some (aI v2), some (aI v3), some (aI v4), some (aI v5), some (aO r1), none]) (s1 := [aO r1]) (h1 := h) rfl ?_
  cases r1 with
  | none =>
    refine A_ifnullT hM.1 rfl rfl ?_
    refine A_blk hM.1 1 (lv1 := [some (aR 0), some (aI v1), some (aI v2), some (aI v3), some (aI v4), some (aI v5), some (aN), none]) (s1 := [aI (-1)]) (h1 := h) rfl ?_
    exact A_reti hM.1 rfl rfl rfl (hq ((-1), h) hh)
  | some t =>
    have ht : t ∈ txL := okO_in ho2
    refine A_ifnullF hM.1 rfl rfl ?_
    refine A_blk hM.1 3 (lv1 := [some (aR 0), some (aI v1), some (aI v2), some (aI v3), some (aI v4), some (aI v5), some (aR t), none]) (s1 := [aI v2, aR 3]) (h1 := h) rfl ?_
    refine A_callV hM rfl rfl (mem_GW 636 (by decide +kernel) rfl) mi_X7_isLeft (As := [aI v2]) (rest := []) (ct_X7_isLeft v2 h (OK_bind hh)) (by decide) ⟨Nat.zero_le _, Nat.zero_le _⟩ rfl rfl (Nat.le_of_ble_eq_true rfl) (by decide) rfl (by decide) rfl (fun r F' h' hq1 => ?_)
    obtain ⟨rfl, r3, rfl, e9, hh⟩ := hq1
    subst h'
    refine A_ifc hM.1 rfl rfl (fun hc => ?_) (fun hc => ?_)
    · replace hh := OK_t hh hc
      refine A_blk hM.1 1 (lv1 := [some (aR 0), some (aI v1), some (aI v2), some (aI v3), some (aI v4), some (aI v5), some (aR t), none]) (s1 := [aI (-1)]) (h1 := h) rfl ?_
      exact A_reti hM.1 rfl rfl rfl (hq ((-1), h) hh)
    · replace hh := OK_f hh hc
      refine A_blk hM.1 3 (lv1 := [some (aR 0), some (aI v1), some (aI v2), some (aI v3), some (aI v4), some (aI v5), some (aR t), none]) (s1 := [aI 9, aI 0, aI v5]) (h1 := h) rfl ?_
      refine A_callS hM rfl rfl (mem_GW 576 (by decide +kernel) rfl) mi_X11_within ms_X11_within (As := [aI v5, aI 0, aI 9]) (rest := []) (ct_X11_within v5 0 9 h (OK_bind hh)) (by decide) ⟨Nat.zero_le _, Nat.zero_le _⟩ rfl rfl (Nat.le_of_ble_eq_true rfl) (fun r F' h' hq1 => ?_)
      obtain ⟨rfl, r4, rfl, e9, hh⟩ := hq1
      subst h'
      refine A_ifc hM.1 rfl rfl (fun hc => ?_) (fun hc => ?_)
      · replace hh := OK_t hh hc
        refine A_blk hM.1 1 (lv1 := [some (aR 0), some (aI v1), some (aI v2), some (aI v3), some (aI v4), some (aI v5), some (aR t), none]) (s1 := [aI (-1)]) (h1 := h) rfl ?_
        exact A_reti hM.1 rfl rfl rfl (hq ((-1), h) hh)
      · replace hh := OK_f hh hc
        refine A_blk hM.1 5 (lv1 := [some (aR 0), some (aI v1), some (aI v2), some (aI v3), some (aI v4), some (aI v5), some (aR t), none]) (s1 := [aI v2, aR 3, aI 0, aI v3]) (h1 := h) rfl ?_
        refine A_callV hM rfl rfl (mem_GW 921 (by decide +kernel) rfl) mi_X7_wordsLeft (As := [aI v2]) (rest := [aI 0, aI v3]) (ct_X7_wordsLeft v2 h (OK_bind hh)) (by decide) ⟨Nat.zero_le _, Nat.zero_le _⟩ rfl rfl (Nat.le_of_ble_eq_true rfl) (by decide) rfl (by decide) rfl (fun r F' h' hq1 => ?_)
        obtain ⟨rfl, r5, rfl, e9, hh⟩ := hq1
        subst h'
        refine A_blk hM.1 2 (lv1 := [some (aR 0), some (aI v1), some (aI v2), some (aI v3), some (aI v4), some (aI v5), some (aR t), none]) (s1 := [aI (r5 - 1), aI 0, aI v3]) (h1 := h) rfl ?_
        refine A_callS hM rfl rfl (mem_GW 576 (by decide +kernel) rfl) mi_X11_within ms_X11_within (As := [aI v3, aI 0, aI (r5 - 1)]) (rest := []) (ct_X11_within v3 0 (r5 - 1) h (OK_bind hh)) (by decide) ⟨Nat.zero_le _, Nat.zero_le _⟩ rfl rfl (Nat.le_of_ble_eq_true rfl) (fun r F' h' hq1 => ?_)
        obtain ⟨rfl, r6, rfl, e9, hh⟩ := hq1
        subst h'
        refine A_ifc hM.1 rfl rfl (fun hc => ?_) (fun hc => ?_)
        · replace hh := OK_t hh hc
          refine A_blk hM.1 1 (lv1 := [some (aR 0), some (aI v1), some (aI v2), some (aI v3), some (aI v4), some (aI v5), some (aR t), none]) (s1 := [aI (-1)]) (h1 := h) rfl ?_
          exact A_reti hM.1 rfl rfl rfl (hq ((-1), h) hh)
        · replace hh := OK_f hh hc
          refine A_blk hM.1 5 (lv1 := [some (aR 0), some (aI v1), some (aI v2), some (aI v3), some (aI v4), some (aI v5), some (aR t), none]) (s1 := [aI v2, aR 3, aI v3, aI v4]) (h1 := h) rfl ?_
          refine A_callV hM rfl rfl (mem_GW 921 (by decide +kernel) rfl) mi_X7_wordsLeft (As := [aI v2]) (rest := [aI v3, aI v4]) (ct_X7_wordsLeft v2 h (OK_bind hh)) (by decide) ⟨Nat.zero_le _, Nat.zero_le _⟩ rfl rfl (Nat.le_of_ble_eq_true rfl) (by decide) rfl (by decide) rfl (fun r F' h' hq1 => ?_)
          obtain ⟨rfl, r7, rfl, e9, hh⟩ := hq1
          subst h'
          refine A_blk hM.1 2 (lv1 := [some (aR 0), some (aI v1), some (aI v2), some (aI v3), some (aI v4), some (aI v5), some (aR t), none]) (s1 := [aI (r7 - 1), aI v3, aI v4]) (h1 := h) rfl ?_
          refine A_callS hM rfl rfl (mem_GW 576 (by decide +kernel) rfl) mi_X11_within ms_X11_within (As := [aI v4, aI v3, aI (r7 - 1)]) (rest := []) (ct_X11_within v4 v3 (r7 - 1) h (OK_bind hh)) (by decide) ⟨Nat.zero_le _, Nat.zero_le _⟩ rfl rfl (Nat.le_of_ble_eq_true rfl) (fun r F' h' hq1 => ?_)
          obtain ⟨rfl, r8, rfl, e9, hh⟩ := hq1
          subst h'
          refine A_ifc hM.1 rfl rfl (fun hc => ?_) (fun hc => ?_)
          · replace hh := OK_t hh hc
            refine A_blk hM.1 1 (lv1 := [some (aR 0), some (aI v1), some (aI v2), some (aI v3), some (aI v4), some (aI v5), some (aR t), none]) (s1 := [aI (-1)]) (h1 := h) rfl ?_
            exact A_reti hM.1 rfl rfl rfl (hq ((-1), h) hh)
          · replace hh := OK_f hh hc
            refine A_blk hM.1 4 (lv1 := [some (aR 0), some (aI v1), some (aI v2), some (aI v3), some (aI v4), some (aI v5), some (aR t), none]) (s1 := [aI 12, aI (v4 - v3)]) (h1 := h) rfl ?_
            refine A_icmp hM.1 rfl rfl (fun hc => ?_) (fun hc => ?_)
            · replace hh := OK_t hh hc
              refine A_blk hM.1 1 (lv1 := [some (aR 0), some (aI v1), some (aI v2), some (aI v3), some (aI v4), some (aI v5), some (aR t), none]) (s1 := [aI (-1)]) (h1 := h) rfl ?_
              exact A_reti hM.1 rfl rfl rfl (hq ((-1), h) hh)
            · replace hh := OK_f hh hc
              refine A_blk hM.1 2 (lv1 := [some (aR 0), some (aI v1), some (aI v2), some (aI v3), some (aI v4), some (aI v5), some (aR t), none]) (s1 := [aR 3]) (h1 := h) rfl ?_
              refine A_callV hM rfl rfl (mem_GW 669 (by decide +kernel) rfl) mi_X7_bits (As := []) (rest := []) (ct_X7_bits h (OK_bind hh)) (by decide) ⟨Nat.zero_le _, Nat.zero_le _⟩ rfl rfl (Nat.le_of_ble_eq_true rfl) (by decide) rfl (by decide) rfl (fun r F' h' hq1 => ?_)
              obtain ⟨rfl, r9, rfl, e9, hh⟩ := hq1
              subst h'
              refine A_blk hM.1 1 (lv1 := [some (aR 0), some (aI v1), some (aI v2), some (aI v3), some (aI v4), some (aI v5), some (aR t), none]) (s1 := [aI 40, aI r9]) (h1 := h) rfl ?_
              refine A_icmp hM.1 rfl rfl (fun hc => ?_) (fun hc => ?_)
              · replace hh := OK_t hh hc
                refine A_blk hM.1 7 (lv1 := [some (aR 0), some (aI v1), some (aI v2), some (aI v3), some (aI v4), some (aI v5), some (aR t), none]) (s1 := [aI ((v4 - v3) + 1), aI 108, aR t]) (h1 := h) rfl ?_
                refine A_callV hM rfl rfl (mem_GW 925 (by decide +kernel) rfl) mi_X10_let (As := [aI 108, aI ((v4 - v3) + 1)]) (rest := []) (ct_X10_let t 108 ((v4 - v3) + 1) h ht (OK_bind hh)) (by decide) ⟨Nat.zero_le _, Nat.zero_le _⟩ rfl rfl (Nat.le_of_ble_eq_true rfl) (tx_l0 ht) (tx_k0 ht) (by decide) rfl (fun r F' h' hq1 => ?_)
                obtain ⟨rfl, rfl, hh⟩ := hq1
                obtain ⟨r10, rfl⟩ : ∃ z, z = h' := ⟨_, rfl⟩
                refine A_blk hM.1 5 (lv1 := [some (aR 0), some (aI v1), some (aI v2), some (aI v3), some (aI v4), some (aI v5), some (aR t), none]) (s1 := [aI v1, aR 3, aI 121, aR t]) (h1 := r10) rfl ?_
                refine A_callV hM rfl rfl (mem_GW 929 (by decide +kernel) rfl) mi_X7_writerYear (As := [aI v1]) (rest := [aI 121, aR t]) (ct_X7_writerYear v1 r10 (OK_bind hh)) (by decide) ⟨Nat.zero_le _, Nat.zero_le _⟩ rfl rfl (Nat.le_of_ble_eq_true rfl) (by decide) rfl (by decide) rfl (fun r F' h' hq1 => ?_)
                obtain ⟨rfl, r11, rfl, e9, hh⟩ := hq1
                subst h'
                refine A_callV hM rfl rfl (mem_GW 925 (by decide +kernel) rfl) mi_X10_let (As := [aI 121, aI r11]) (rest := []) (ct_X10_let t 121 r11 r10 ht (OK_bind hh)) (by decide) ⟨Nat.zero_le _, Nat.zero_le _⟩ rfl rfl (Nat.le_of_ble_eq_true rfl) (tx_l0 ht) (tx_k0 ht) (by decide) rfl (fun r F' h' hq1 => ?_)
                obtain ⟨rfl, rfl, hh⟩ := hq1
                obtain ⟨r12, rfl⟩ : ∃ z, z = h' := ⟨_, rfl⟩
                refine A_blk hM.1 3 (lv1 := [some (aR 0), some (aI v1), some (aI v2), some (aI v3), some (aI v4), some (aI v5), some (aR t), none]) (s1 := [aI v2, aI 107, aR t]) (h1 := r12) rfl ?_
                refine A_callV hM rfl rfl (mem_GW 925 (by decide +kernel) rfl) mi_X10_let (As := [aI 107, aI v2]) (rest := []) (ct_X10_let t 107 v2 r12 ht (OK_bind hh)) (by decide) ⟨Nat.zero_le _, Nat.zero_le _⟩ rfl rfl (Nat.le_of_ble_eq_true rfl) (tx_l0 ht) (tx_k0 ht) (by decide) rfl (fun r F' h' hq1 => ?_)
                obtain ⟨rfl, rfl, hh⟩ := hq1
                obtain ⟨r13, rfl⟩ : ∃ z, z = h' := ⟨_, rfl⟩
                refine A_blk hM.1 3 (lv1 := [some (aR 0), some (aI v1), some (aI v2), some (aI v3), some (aI v4), some (aI v5), some (aR t), none]) (s1 := [aI v1, aI 109, aR t]) (h1 := r13) rfl ?_
                refine A_callV hM rfl rfl (mem_GW 925 (by decide +kernel) rfl) mi_X10_let (As := [aI 109, aI v1]) (rest := []) (ct_X10_let t 109 v1 r13 ht (OK_bind hh)) (by decide) ⟨Nat.zero_le _, Nat.zero_le _⟩ rfl rfl (Nat.le_of_ble_eq_true rfl) (tx_l0 ht) (tx_k0 ht) (by decide) rfl (fun r F' h' hq1 => ?_)
                obtain ⟨rfl, rfl, hh⟩ := hq1
                obtain ⟨r14, rfl⟩ : ∃ z, z = h' := ⟨_, rfl⟩
                refine A_blk hM.1 5 (lv1 := [some (aR 0), some (aI v1), some (aI v2), some (aI v3), some (aI v4), some (aI v5), some (aR t), none]) (s1 := [aI v4, aI v3, aI v2, aR t, aR 0]) (h1 := r14) rfl ?_
                refine A_callV hM rfl rfl (mem_GW 933 (by decide +kernel) rfl) mi_X11_quoteWords (As := [aR t, aI v2, aI v3, aI v4]) (rest := []) (ct_X11_quoteWords t v2 v3 v4 r14 ht (OK_bind hh)) (by decide) ⟨Nat.zero_le _, Nat.zero_le _⟩ rfl rfl (Nat.le_of_ble_eq_true rfl) (by decide) rfl (by decide) rfl (fun r F' h' hq1 => ?_)
                obtain ⟨rfl, r15, rfl, e9, hh⟩ := hq1
                subst h'
                refine A_blk hM.1 3 (lv1 := [some (aR 0), some (aI v1), some (aI v2), some (aI v3), some (aI v4), some (aI v5), some (aR t), some (aI r15.1)]) (s1 := [aI (r15.2 0 14)]) (h1 := r15.2) rfl ?_
                refine A_ifc hM.1 rfl rfl (fun hc => ?_) (fun hc => ?_)
                · replace hh := OK_t hh hc
                  refine A_blk hM.1 5 (lv1 := [some (aR 0), some (aI v1), some (aI v2), some (aI v3), some (aI v4), some (aI v5), some (aR t), some (aI r15.1)]) (s1 := [aI v5, aI r15.1, aI v2, aI v1, aR 0]) (h1 := r15.2) rfl ?_
                  refine A_callV hM rfl rfl (mem_GW 678 (by decide +kernel) rfl) mi_X11_keepBit (As := [aI v1, aI v2, aI r15.1, aI v5]) (rest := []) (ct_X11_keepBit v1 v2 r15.1 v5 r15.2 (OK_bind hh)) (by decide) ⟨Nat.zero_le _, Nat.zero_le _⟩ rfl rfl (Nat.le_of_ble_eq_true rfl) (by decide) rfl (by decide) rfl (fun r F' h' hq1 => ?_)
                  obtain ⟨rfl, r16, rfl, e9, hh⟩ := hq1
                  subst h'
                  exact A_reti hM.1 rfl rfl rfl (hq (r16.1, r16.2) hh)
                · replace hh := OK_f hh hc
                  refine A_blk hM.1 1 (lv1 := [some (aR 0), some (aI v1), some (aI v2), some (aI v3), some (aI v4), some (aI v5), some (aR t), some (aI r15.1)]) (s1 := [aI (-2)]) (h1 := r15.2) rfl ?_
                  refine A_go hM.1 rfl rfl ?_
                  exact A_reti hM.1 rfl rfl rfl (hq ((-2), r15.2) hh)
              · replace hh := OK_f hh hc
                refine A_blk hM.1 1 (lv1 := [some (aR 0), some (aI v1), some (aI v2), some (aI v3), some (aI v4), some (aI v5), some (aR t), none]) (s1 := [aI (-1)]) (h1 := h) rfl ?_
                exact A_reti hM.1 rfl rfl rfl (hq ((-1), h) hh)

set_option maxRecDepth 20000 in
set_option maxHeartbeats 4000000 in
theorem ct_X11_quote {G : Gx} (v1 : Int) (v2 : Int) (v3 : Int) (v4 : Int) (v5 : Int) (h : Hp)   {P : (Int × Hp) → Prop} (hh : OK (X11_quote v1 v2 v3 v4 v5 h) P) : CT G yX11_quote M_X11_quote 7 0 0 FN h [aR 0, aI v1, aI v2, aI v3, aI v4, aI v5] (fun r F' h' => F' = FN ∧ ∃ z, r = some (aI z.1) ∧ h' = z.2 ∧ P z) :=
  CT.of (by decide +kernel) rfl (Nat.le_of_ble_eq_true rfl) k_X11_quote fun k0 _ _ hM => c_X11_quote hM v1 v2 v3 v4 v5 h (fun z hz => ⟨rfl, z, rfl, rfl, hz⟩) hh

theorem mi_X7_bitSize : MIv yX7_bitSize M_X7_bitSize 1 := ⟨⟨(mem_GW 990 (by decide +kernel) rfl), (mem_GW 125 (by decide +kernel) rfl), by decide +kernel, by decide +kernel, by decide +kernel, by decide⟩, (mem_GW 988 (by decide +kernel) rfl), (mem_GW 989 (by decide +kernel) rfl)⟩
set_option maxRecDepth 20000 in
set_option maxHeartbeats 4000000 in
theorem c_X7_bitSize {k0 : K0} {G : Gx} {Qp : Option AV → Fx → Hp → Prop} (hM : MB (KM k0 0 0 Qp) G M_X7_bitSize 2) (v1 : Int) (h : Hp)   {P : Int → Prop} (hq : ∀ z : Int, P z → Qp (some (aI z)) FN h) (hh : OK (X7_bitSize v1 h) P) : ATk (KM k0 0 0 Qp) FN 0 0 M_X7_bitSize 0 [some (aR 3), some (aI v1)] [] h := by
  unfold X7_bitSize at hh
  refine A_blk hM.1 3 (lv1 := [some (aR 3), some (aI v1)]) (s1 := [aI v1, aR 16]) (h1 := h) rfl ?_
  refine A_callSN (host := "QuotedBooks") hM rfl rfl (mem_NW 641 (by decide +kernel) rfl) mi_X11_at ms_X11_at (As := [aR 16, aI v1]) (rest := []) (ct_X11_at 16 40 v1 h rfl rfl (OK_bind hh)) (by decide) ⟨Nat.zero_le _, Nat.zero_le _⟩ rfl rfl (Nat.le_of_ble_eq_true rfl) (fun r F' h' hq1 => ?_)
  obtain ⟨rfl, r1, rfl, e9, hh⟩ := hq1
  subst h'
  exact A_reti hM.1 rfl rfl rfl (hq r1 hh)

set_option maxRecDepth 20000 in
set_option maxHeartbeats 4000000 in
theorem ct_X7_bitSize {G : Gx} (v1 : Int) (h : Hp)   {P : Int → Prop} (hh : OK (X7_bitSize v1 h) P) : CT G yX7_bitSize M_X7_bitSize 2 0 0 FN h [aR 3, aI v1] (fun r F' h' => F' = FN ∧ ∃ z, r = some (aI z) ∧ h' = h ∧ P z) :=
  CT.of (by decide +kernel) rfl (Nat.le_of_ble_eq_true rfl) k_X7_bitSize fun k0 _ _ hM => c_X7_bitSize hM v1 h (fun z hz => ⟨rfl, z, rfl, rfl, hz⟩) hh

theorem mi_X7_bitWord : MIv yX7_bitWord M_X7_bitWord 2 := ⟨⟨(mem_GW 994 (by decide +kernel) rfl), (mem_GW 125 (by decide +kernel) rfl), by decide +kernel, by decide +kernel, by decide +kernel, by decide⟩, (mem_GW 992 (by decide +kernel) rfl), (mem_GW 993 (by decide +kernel) rfl)⟩
set_option maxRecDepth 20000 in
set_option maxHeartbeats 4000000 in
theorem c_X7_bitWord {k0 : K0} {G : Gx} {Qp : Option AV → Fx → Hp → Prop} (hM : MB (KM k0 0 0 Qp) G M_X7_bitWord 2) (v1 : Int) (v2 : Int) (h : Hp)   {P : Int → Prop} (hq : ∀ z : Int, P z → Qp (some (aI z)) FN h) (hh : OK (X7_bitWord v1 v2 h) P) : ATk (KM k0 0 0 Qp) FN 0 0 M_X7_bitWord 0 [some (aR 3), some (aI v1), some (aI v2)] [] h := by
  unfold X7_bitWord at hh
  refine A_blk hM.1 7 (lv1 := [some (aR 3), some (aI v1), some (aI v2)]) (s1 := [aI ((v1 * 8) + v2), aR 17]) (h1 := h) rfl ?_
  refine A_callSN (host := "QuotedBooks") hM rfl rfl (mem_NW 641 (by decide +kernel) rfl) mi_X11_at ms_X11_at (As := [aR 17, aI ((v1 * 8) + v2)]) (rest := []) (ct_X11_at 17 320 ((v1 * 8) + v2) h rfl rfl (OK_bind hh)) (by decide) ⟨Nat.zero_le _, Nat.zero_le _⟩ rfl rfl (Nat.le_of_ble_eq_true rfl) (fun r F' h' hq1 => ?_)
  obtain ⟨rfl, r1, rfl, e9, hh⟩ := hq1
  subst h'
  exact A_reti hM.1 rfl rfl rfl (hq r1 hh)

set_option maxRecDepth 20000 in
set_option maxHeartbeats 4000000 in
theorem ct_X7_bitWord {G : Gx} (v1 : Int) (v2 : Int) (h : Hp)   {P : Int → Prop} (hh : OK (X7_bitWord v1 v2 h) P) : CT G yX7_bitWord M_X7_bitWord 2 0 0 FN h [aR 3, aI v1, aI v2] (fun r F' h' => F' = FN ∧ ∃ z, r = some (aI z) ∧ h' = h ∧ P z) :=
  CT.of (by decide +kernel) rfl (Nat.le_of_ble_eq_true rfl) k_X7_bitWord fun k0 _ _ hM => c_X7_bitWord hM v1 v2 h (fun z hz => ⟨rfl, z, rfl, rfl, hz⟩) hh

theorem mi_X7_bitWriter : MIv yX7_bitWriter M_X7_bitWriter 1 := ⟨⟨(mem_GW 998 (by decide +kernel) rfl), (mem_GW 125 (by decide +kernel) rfl), by decide +kernel, by decide +kernel, by decide +kernel, by decide⟩, (mem_GW 996 (by decide +kernel) rfl), (mem_GW 997 (by decide +kernel) rfl)⟩
set_option maxRecDepth 20000 in
set_option maxHeartbeats 4000000 in
theorem c_X7_bitWriter {k0 : K0} {G : Gx} {Qp : Option AV → Fx → Hp → Prop} (hM : MB (KM k0 0 0 Qp) G M_X7_bitWriter 2) (v1 : Int) (h : Hp)   {P : Int → Prop} (hq : ∀ z : Int, P z → Qp (some (aI z)) FN h) (hh : OK (X7_bitWriter v1 h) P) : ATk (KM k0 0 0 Qp) FN 0 0 M_X7_bitWriter 0 [some (aR 3), some (aI v1)] [] h := by
  unfold X7_bitWriter at hh
  refine A_blk hM.1 2 (lv1 := [some (aR 3), some (aI v1)]) (s1 := [aI v1, aR 3]) (h1 := h) rfl ?_
  refine A_callV hM rfl rfl (mem_GW 694 (by decide +kernel) rfl) mi_X7_isBit (As := [aI v1]) (rest := []) (ct_X7_isBit v1 h (OK_bind hh)) (by decide) ⟨Nat.zero_le _, Nat.zero_le _⟩ rfl rfl (Nat.le_of_ble_eq_true rfl) (by decide) rfl (by decide) rfl (fun r F' h' hq1 => ?_)
  obtain ⟨rfl, r1, rfl, e9, hh⟩ := hq1
  subst h'
  refine A_ifc hM.1 rfl rfl (fun hc => ?_) (fun hc => ?_)
  · replace hh := OK_t hh hc
    refine A_blk hM.1 1 (lv1 := [some (aR 3), some (aI v1)]) (s1 := [aI (-1)]) (h1 := h) rfl ?_
    exact A_reti hM.1 rfl rfl rfl (hq (-1) hh)
  · replace hh := OK_f hh hc
    refine A_blk hM.1 3 (lv1 := [some (aR 3), some (aI v1)]) (s1 := [aI v1, aR 12]) (h1 := h) rfl ?_
    refine A_callSN (host := "QuotedBooks") hM rfl rfl (mem_NW 641 (by decide +kernel) rfl) mi_X11_at ms_X11_at (As := [aR 12, aI v1]) (rest := []) (ct_X11_at 12 40 v1 h rfl rfl (OK_bind hh)) (by decide) ⟨Nat.zero_le _, Nat.zero_le _⟩ rfl rfl (Nat.le_of_ble_eq_true rfl) (fun r F' h' hq1 => ?_)
    obtain ⟨rfl, r2, rfl, e9, hh⟩ := hq1
    subst h'
    refine A_go hM.1 rfl rfl ?_
    exact A_reti hM.1 rfl rfl rfl (hq r2 hh)

set_option maxRecDepth 20000 in
set_option maxHeartbeats 4000000 in
theorem ct_X7_bitWriter {G : Gx} (v1 : Int) (h : Hp)   {P : Int → Prop} (hh : OK (X7_bitWriter v1 h) P) : CT G yX7_bitWriter M_X7_bitWriter 2 0 0 FN h [aR 3, aI v1] (fun r F' h' => F' = FN ∧ ∃ z, r = some (aI z) ∧ h' = h ∧ P z) :=
  CT.of (by decide +kernel) rfl (Nat.le_of_ble_eq_true rfl) k_X7_bitWriter fun k0 _ _ hM => c_X7_bitWriter hM v1 h (fun z hz => ⟨rfl, z, rfl, rfl, hz⟩) hh

theorem mi_X7_bitWork : MIv yX7_bitWork M_X7_bitWork 1 := ⟨⟨(mem_GW 1002 (by decide +kernel) rfl), (mem_GW 125 (by decide +kernel) rfl), by decide +kernel, by decide +kernel, by decide +kernel, by decide⟩, (mem_GW 1000 (by decide +kernel) rfl), (mem_GW 1001 (by decide +kernel) rfl)⟩
set_option maxRecDepth 20000 in
set_option maxHeartbeats 4000000 in
theorem c_X7_bitWork {k0 : K0} {G : Gx} {Qp : Option AV → Fx → Hp → Prop} (hM : MB (KM k0 0 0 Qp) G M_X7_bitWork 2) (v1 : Int) (h : Hp)   {P : Int → Prop} (hq : ∀ z : Int, P z → Qp (some (aI z)) FN h) (hh : OK (X7_bitWork v1 h) P) : ATk (KM k0 0 0 Qp) FN 0 0 M_X7_bitWork 0 [some (aR 3), some (aI v1)] [] h := by
  unfold X7_bitWork at hh
  refine A_blk hM.1 2 (lv1 := [some (aR 3), some (aI v1)]) (s1 := [aI v1, aR 3]) (h1 := h) rfl ?_
  refine A_callV hM rfl rfl (mem_GW 694 (by decide +kernel) rfl) mi_X7_isBit (As := [aI v1]) (rest := []) (ct_X7_isBit v1 h (OK_bind hh)) (by decide) ⟨Nat.zero_le _, Nat.zero_le _⟩ rfl rfl (Nat.le_of_ble_eq_true rfl) (by decide) rfl (by decide) rfl (fun r F' h' hq1 => ?_)
  obtain ⟨rfl, r1, rfl, e9, hh⟩ := hq1
  subst h'
  refine A_ifc hM.1 rfl rfl (fun hc => ?_) (fun hc => ?_)
  · replace hh := OK_t hh hc
    refine A_blk hM.1 1 (lv1 := [some (aR 3), some (aI v1)]) (s1 := [aI (-1)]) (h1 := h) rfl ?_
    exact A_reti hM.1 rfl rfl rfl (hq (-1) hh)
  · replace hh := OK_f hh hc
    refine A_blk hM.1 3 (lv1 := [some (aR 3), some (aI v1)]) (s1 := [aI v1, aR 13]) (h1 := h) rfl ?_
    refine A_callSN (host := "QuotedBooks") hM rfl rfl (mem_NW 641 (by decide +kernel) rfl) mi_X11_at ms_X11_at (As := [aR 13, aI v1]) (rest := []) (ct_X11_at 13 40 v1 h rfl rfl (OK_bind hh)) (by decide) ⟨Nat.zero_le _, Nat.zero_le _⟩ rfl rfl (Nat.le_of_ble_eq_true rfl) (fun r F' h' hq1 => ?_)
    obtain ⟨rfl, r2, rfl, e9, hh⟩ := hq1
    subst h'
    refine A_go hM.1 rfl rfl ?_
    exact A_reti hM.1 rfl rfl rfl (hq r2 hh)

set_option maxRecDepth 20000 in
set_option maxHeartbeats 4000000 in
theorem ct_X7_bitWork {G : Gx} (v1 : Int) (h : Hp)   {P : Int → Prop} (hh : OK (X7_bitWork v1 h) P) : CT G yX7_bitWork M_X7_bitWork 2 0 0 FN h [aR 3, aI v1] (fun r F' h' => F' = FN ∧ ∃ z, r = some (aI z) ∧ h' = h ∧ P z) :=
  CT.of (by decide +kernel) rfl (Nat.le_of_ble_eq_true rfl) k_X7_bitWork fun k0 _ _ hM => c_X7_bitWork hM v1 h (fun z hz => ⟨rfl, z, rfl, rfl, hz⟩) hh

theorem mi_X7_bitBook : MIv yX7_bitBook M_X7_bitBook 1 := ⟨⟨(mem_GW 1006 (by decide +kernel) rfl), (mem_GW 125 (by decide +kernel) rfl), by decide +kernel, by decide +kernel, by decide +kernel, by decide⟩, (mem_GW 1004 (by decide +kernel) rfl), (mem_GW 1005 (by decide +kernel) rfl)⟩
set_option maxRecDepth 20000 in
set_option maxHeartbeats 4000000 in
theorem c_X7_bitBook {k0 : K0} {G : Gx} {Qp : Option AV → Fx → Hp → Prop} (hM : MB (KM k0 0 0 Qp) G M_X7_bitBook 2) (v1 : Int) (h : Hp)   {P : Int → Prop} (hq : ∀ z : Int, P z → Qp (some (aI z)) FN h) (hh : OK (X7_bitBook v1 h) P) : ATk (KM k0 0 0 Qp) FN 0 0 M_X7_bitBook 0 [some (aR 3), some (aI v1)] [] h := by
  unfold X7_bitBook at hh
  refine A_blk hM.1 2 (lv1 := [some (aR 3), some (aI v1)]) (s1 := [aI v1, aR 3]) (h1 := h) rfl ?_
  refine A_callV hM rfl rfl (mem_GW 694 (by decide +kernel) rfl) mi_X7_isBit (As := [aI v1]) (rest := []) (ct_X7_isBit v1 h (OK_bind hh)) (by decide) ⟨Nat.zero_le _, Nat.zero_le _⟩ rfl rfl (Nat.le_of_ble_eq_true rfl) (by decide) rfl (by decide) rfl (fun r F' h' hq1 => ?_)
  obtain ⟨rfl, r1, rfl, e9, hh⟩ := hq1
  subst h'
  refine A_ifc hM.1 rfl rfl (fun hc => ?_) (fun hc => ?_)
  · replace hh := OK_t hh hc
    refine A_blk hM.1 1 (lv1 := [some (aR 3), some (aI v1)]) (s1 := [aI 0]) (h1 := h) rfl ?_
    exact A_reti hM.1 rfl rfl rfl (hq 0 hh)
  · replace hh := OK_f hh hc
    refine A_blk hM.1 3 (lv1 := [some (aR 3), some (aI v1)]) (s1 := [aI v1, aR 14]) (h1 := h) rfl ?_
    refine A_callSN (host := "QuotedBooks") hM rfl rfl (mem_NW 641 (by decide +kernel) rfl) mi_X11_at ms_X11_at (As := [aR 14, aI v1]) (rest := []) (ct_X11_at 14 40 v1 h rfl rfl (OK_bind hh)) (by decide) ⟨Nat.zero_le _, Nat.zero_le _⟩ rfl rfl (Nat.le_of_ble_eq_true rfl) (fun r F' h' hq1 => ?_)
    obtain ⟨rfl, r2, rfl, e9, hh⟩ := hq1
    subst h'
    refine A_go hM.1 rfl rfl ?_
    exact A_reti hM.1 rfl rfl rfl (hq r2 hh)

set_option maxRecDepth 20000 in
set_option maxHeartbeats 4000000 in
theorem ct_X7_bitBook {G : Gx} (v1 : Int) (h : Hp)   {P : Int → Prop} (hh : OK (X7_bitBook v1 h) P) : CT G yX7_bitBook M_X7_bitBook 2 0 0 FN h [aR 3, aI v1] (fun r F' h' => F' = FN ∧ ∃ z, r = some (aI z) ∧ h' = h ∧ P z) :=
  CT.of (by decide +kernel) rfl (Nat.le_of_ble_eq_true rfl) k_X7_bitBook fun k0 _ _ hM => c_X7_bitBook hM v1 h (fun z hz => ⟨rfl, z, rfl, rfl, hz⟩) hh

theorem mi_X7_bitSubject : MIv yX7_bitSubject M_X7_bitSubject 1 := ⟨⟨(mem_GW 1010 (by decide +kernel) rfl), (mem_GW 125 (by decide +kernel) rfl), by decide +kernel, by decide +kernel, by decide +kernel, by decide⟩, (mem_GW 1008 (by decide +kernel) rfl), (mem_GW 1009 (by decide +kernel) rfl)⟩
set_option maxRecDepth 20000 in
set_option maxHeartbeats 4000000 in
theorem c_X7_bitSubject {k0 : K0} {G : Gx} {Qp : Option AV → Fx → Hp → Prop} (hM : MB (KM k0 0 0 Qp) G M_X7_bitSubject 2) (v1 : Int) (h : Hp)   {P : Int → Prop} (hq : ∀ z : Int, P z → Qp (some (aI z)) FN h) (hh : OK (X7_bitSubject v1 h) P) : ATk (KM k0 0 0 Qp) FN 0 0 M_X7_bitSubject 0 [some (aR 3), some (aI v1)] [] h := by
  unfold X7_bitSubject at hh
  refine A_blk hM.1 3 (lv1 := [some (aR 3), some (aI v1)]) (s1 := [aI v1, aR 15]) (h1 := h) rfl ?_
  refine A_callSN (host := "QuotedBooks") hM rfl rfl (mem_NW 641 (by decide +kernel) rfl) mi_X11_at ms_X11_at (As := [aR 15, aI v1]) (rest := []) (ct_X11_at 15 40 v1 h rfl rfl (OK_bind hh)) (by decide) ⟨Nat.zero_le _, Nat.zero_le _⟩ rfl rfl (Nat.le_of_ble_eq_true rfl) (fun r F' h' hq1 => ?_)
  obtain ⟨rfl, r1, rfl, e9, hh⟩ := hq1
  subst h'
  exact A_reti hM.1 rfl rfl rfl (hq r1 hh)

set_option maxRecDepth 20000 in
set_option maxHeartbeats 4000000 in
theorem ct_X7_bitSubject {G : Gx} (v1 : Int) (h : Hp)   {P : Int → Prop} (hh : OK (X7_bitSubject v1 h) P) : CT G yX7_bitSubject M_X7_bitSubject 2 0 0 FN h [aR 3, aI v1] (fun r F' h' => F' = FN ∧ ∃ z, r = some (aI z) ∧ h' = h ∧ P z) :=
  CT.of (by decide +kernel) rfl (Nat.le_of_ble_eq_true rfl) k_X7_bitSubject fun k0 _ _ hM => c_X7_bitSubject hM v1 h (fun z hz => ⟨rfl, z, rfl, rfl, hz⟩) hh

theorem mi_X11_bitIs : MIv yX11_bitIs M_X11_bitIs 2 := ⟨⟨(mem_GW 985 (by decide +kernel) rfl), (mem_GW 123 (by decide +kernel) rfl), by decide +kernel, by decide +kernel, by decide +kernel, by decide⟩, (mem_GW 983 (by decide +kernel) rfl), (mem_GW 984 (by decide +kernel) rfl)⟩
set_option maxRecDepth 20000 in
set_option maxHeartbeats 4000000 in
theorem c_X11_bitIs_j26 {k0 : K0} {G : Gx} {Qp : Option AV → Fx → Hp → Prop} (hM : MB (KM k0 0 0 Qp) G M_X11_bitIs 3) (v1 : Int) (v2 : Int) (h : Hp)   {P : Int → Prop} (hq : ∀ z : Int, P z → Qp (some (aI z)) FN h) (hh : OK (X11_bitIs_j26 v1 v2 h) P) : ATk (KM k0 0 0 Qp) FN 0 0 M_X11_bitIs 26 [some (aR 0), some (aI v1), some (aI v2)] [] h := by
  unfold X11_bitIs_j26 at hh
  refine A_blk hM.1 1 (lv1 := [some (aR 0), some (aI v1), some (aI v2)]) (s1 := [aI v2]) (h1 := h) rfl ?_
  refine A_tsw hM.1 rfl [(0, 28), (1, 33), (2, 38), (3, 43), (4, 48)] 53 (by decide +kernel) ?_
  refine ⟨fun hc => ?_, fun hc => ?_⟩
  · replace hh := OK_t hh hc
    refine A_blk hM.1 3 (lv1 := [some (aR 0), some (aI v1), some (aI v2)]) (s1 := [aI v1, aR 3]) (h1 := h) rfl ?_
    refine A_callV hM rfl rfl (mem_GW 995 (by decide +kernel) rfl) mi_X7_bitWriter (As := [aI v1]) (rest := []) (ct_X7_bitWriter v1 h (OK_bind hh)) (by decide) ⟨Nat.zero_le _, Nat.zero_le _⟩ rfl rfl (Nat.le_of_ble_eq_true rfl) (by decide) rfl (by decide) rfl (fun r F' h' hq1 => ?_)
    obtain ⟨rfl, r2, rfl, e9, hh⟩ := hq1
    subst h'
    exact A_reti hM.1 rfl rfl rfl (hq r2 hh)
  replace hh := OK_f hh hc
  refine ⟨fun hc => ?_, fun hc => ?_⟩
  · replace hh := OK_t hh hc
    refine A_blk hM.1 3 (lv1 := [some (aR 0), some (aI v1), some (aI v2)]) (s1 := [aI v1, aR 3]) (h1 := h) rfl ?_
    refine A_callV hM rfl rfl (mem_GW 999 (by decide +kernel) rfl) mi_X7_bitWork (As := [aI v1]) (rest := []) (ct_X7_bitWork v1 h (OK_bind hh)) (by decide) ⟨Nat.zero_le _, Nat.zero_le _⟩ rfl rfl (Nat.le_of_ble_eq_true rfl) (by decide) rfl (by decide) rfl (fun r F' h' hq1 => ?_)
    obtain ⟨rfl, r3, rfl, e9, hh⟩ := hq1
    subst h'
    exact A_reti hM.1 rfl rfl rfl (hq r3 hh)
  replace hh := OK_f hh hc
  refine ⟨fun hc => ?_, fun hc => ?_⟩
  · replace hh := OK_t hh hc
    refine A_blk hM.1 3 (lv1 := [some (aR 0), some (aI v1), some (aI v2)]) (s1 := [aI v1, aR 3]) (h1 := h) rfl ?_
    refine A_callV hM rfl rfl (mem_GW 1003 (by decide +kernel) rfl) mi_X7_bitBook (As := [aI v1]) (rest := []) (ct_X7_bitBook v1 h (OK_bind hh)) (by decide) ⟨Nat.zero_le _, Nat.zero_le _⟩ rfl rfl (Nat.le_of_ble_eq_true rfl) (by decide) rfl (by decide) rfl (fun r F' h' hq1 => ?_)
    obtain ⟨rfl, r4, rfl, e9, hh⟩ := hq1
    subst h'
    exact A_reti hM.1 rfl rfl rfl (hq r4 hh)
  replace hh := OK_f hh hc
  refine ⟨fun hc => ?_, fun hc => ?_⟩
  · replace hh := OK_t hh hc
    refine A_blk hM.1 3 (lv1 := [some (aR 0), some (aI v1), some (aI v2)]) (s1 := [aI v1, aR 3]) (h1 := h) rfl ?_
    refine A_callV hM rfl rfl (mem_GW 1007 (by decide +kernel) rfl) mi_X7_bitSubject (As := [aI v1]) (rest := []) (ct_X7_bitSubject v1 h (OK_bind hh)) (by decide) ⟨Nat.zero_le _, Nat.zero_le _⟩ rfl rfl (Nat.le_of_ble_eq_true rfl) (by decide) rfl (by decide) rfl (fun r F' h' hq1 => ?_)
    obtain ⟨rfl, r5, rfl, e9, hh⟩ := hq1
    subst h'
    exact A_reti hM.1 rfl rfl rfl (hq r5 hh)
  replace hh := OK_f hh hc
  refine ⟨fun hc => ?_, fun hc => ?_⟩
  · replace hh := OK_t hh hc
    refine A_blk hM.1 3 (lv1 := [some (aR 0), some (aI v1), some (aI v2)]) (s1 := [aI v1, aR 3]) (h1 := h) rfl ?_
    refine A_callV hM rfl rfl (mem_GW 987 (by decide +kernel) rfl) mi_X7_bitSize (As := [aI v1]) (rest := []) (ct_X7_bitSize v1 h (OK_bind hh)) (by decide) ⟨Nat.zero_le _, Nat.zero_le _⟩ rfl rfl (Nat.le_of_ble_eq_true rfl) (by decide) rfl (by decide) rfl (fun r F' h' hq1 => ?_)
    obtain ⟨rfl, r6, rfl, e9, hh⟩ := hq1
    subst h'
    exact A_reti hM.1 rfl rfl rfl (hq r6 hh)
  replace hh := OK_f hh hc
  refine A_blk hM.1 1 (lv1 := [some (aR 0), some (aI v1), some (aI v2)]) (s1 := [aI (-1)]) (h1 := h) rfl ?_
  exact A_reti hM.1 rfl rfl rfl (hq (-1) hh)

set_option maxRecDepth 20000 in
set_option maxHeartbeats 4000000 in
theorem c_X11_bitIs {k0 : K0} {G : Gx} {Qp : Option AV → Fx → Hp → Prop} (hM : MB (KM k0 0 0 Qp) G M_X11_bitIs 3) (v1 : Int) (v2 : Int) (h : Hp)   {P : Int → Prop} (hq : ∀ z : Int, P z → Qp (some (aI z)) FN h) (hh : OK (X11_bitIs v1 v2 h) P) : ATk (KM k0 0 0 Qp) FN 0 0 M_X11_bitIs 0 [some (aR 0), some (aI v1), some (aI v2)] [] h := by
  unfold X11_bitIs at hh
  refine A_blk hM.1 3 (lv1 := [some (aR 0), some (aI v1), some (aI v2)]) (s1 := [aI v1, aR 3]) (h1 := h) rfl ?_
  refine A_callV hM rfl rfl (mem_GW 986 (by decide +kernel) rfl) mi_X7_isBit (As := [aI v1]) (rest := []) (ct_X7_isBit v1 h (OK_bind hh)) (by decide) ⟨Nat.zero_le _, Nat.zero_le _⟩ rfl rfl (Nat.le_of_ble_eq_true rfl) (by decide) rfl (by decide) rfl (fun r F' h' hq1 => ?_)
  obtain ⟨rfl, r1, rfl, e9, hh⟩ := hq1
  subst h'
  refine A_ifc hM.1 rfl rfl (fun hc => ?_) (fun hc => ?_)
  · replace hh := OK_t hh hc
    refine A_blk hM.1 2 (lv1 := [some (aR 0), some (aI v1), some (aI v2)]) (s1 := [aI 10, aI v2]) (h1 := h) rfl ?_
    refine A_icmp hM.1 rfl rfl (fun hc => ?_) (fun hc => ?_)
    · replace hh := OK_t hh hc
      exact c_X11_bitIs_j26 hM v1 v2 h hq hh
    · replace hh := OK_f hh hc
      refine A_blk hM.1 6 (lv1 := [some (aR 0), some (aI v1), some (aI v2)]) (s1 := [aI v1, aR 3, aI (v2 - 10)]) (h1 := h) rfl ?_
      refine A_callV hM rfl rfl (mem_GW 987 (by decide +kernel) rfl) mi_X7_bitSize (As := [aI v1]) (rest := [aI (v2 - 10)]) (ct_X7_bitSize v1 h (OK_bind hh)) (by decide) ⟨Nat.zero_le _, Nat.zero_le _⟩ rfl rfl (Nat.le_of_ble_eq_true rfl) (by decide) rfl (by decide) rfl (fun r F' h' hq1 => ?_)
      obtain ⟨rfl, r7, rfl, e9, hh⟩ := hq1
      subst h'
      refine A_icmp hM.1 rfl rfl (fun hc => ?_) (fun hc => ?_)
      · replace hh := OK_t hh hc
        exact c_X11_bitIs_j26 hM v1 v2 h hq hh
      · replace hh := OK_f hh hc
        refine A_blk hM.1 6 (lv1 := [some (aR 0), some (aI v1), some (aI v2)]) (s1 := [aI (v2 - 10), aI v1, aR 3]) (h1 := h) rfl ?_
        refine A_callV hM rfl rfl (mem_GW 991 (by decide +kernel) rfl) mi_X7_bitWord (As := [aI v1, aI (v2 - 10)]) (rest := []) (ct_X7_bitWord v1 (v2 - 10) h (OK_bind hh)) (by decide) ⟨Nat.zero_le _, Nat.zero_le _⟩ rfl rfl (Nat.le_of_ble_eq_true rfl) (by decide) rfl (by decide) rfl (fun r F' h' hq1 => ?_)
        obtain ⟨rfl, r8, rfl, e9, hh⟩ := hq1
        subst h'
        exact A_reti hM.1 rfl rfl rfl (hq r8 hh)
  · replace hh := OK_f hh hc
    refine A_blk hM.1 1 (lv1 := [some (aR 0), some (aI v1), some (aI v2)]) (s1 := [aI (-1)]) (h1 := h) rfl ?_
    exact A_reti hM.1 rfl rfl rfl (hq (-1) hh)

set_option maxRecDepth 20000 in
set_option maxHeartbeats 4000000 in
theorem ct_X11_bitIs {G : Gx} (v1 : Int) (v2 : Int) (h : Hp)   {P : Int → Prop} (hh : OK (X11_bitIs v1 v2 h) P) : CT G yX11_bitIs M_X11_bitIs 3 0 0 FN h [aR 0, aI v1, aI v2] (fun r F' h' => F' = FN ∧ ∃ z, r = some (aI z) ∧ h' = h ∧ P z) :=
  CT.of (by decide +kernel) rfl (Nat.le_of_ble_eq_true rfl) k_X11_bitIs fun k0 _ _ hM => c_X11_bitIs hM v1 v2 h (fun z hz => ⟨rfl, z, rfl, rfl, hz⟩) hh

theorem mi_X1_startRow : MIv yX1_startRow M_X1_startRow 1 := ⟨⟨(mem_GW 1023 (by decide +kernel) rfl), (mem_GW 129 (by decide +kernel) rfl), by decide +kernel, by decide +kernel, by decide +kernel, by decide⟩, (mem_GW 1022 (by decide +kernel) rfl), (mem_GW 26 (by decide +kernel) rfl)⟩
set_option maxRecDepth 20000 in
set_option maxHeartbeats 4000000 in
theorem c_X1_startRow_l2 {k0 : K0} {G : Gx} {Qp : Option AV → Fx → Hp → Prop} (hM : MB (KM k0 0 0 Qp) G M_X1_startRow 1) (v1 : Int) (x : Int × Hp)   {P : ((Int × Hp) ⊕ (Hp)) → Prop} (hin : ∀ y : Int × Hp, P (.inl y) → ATk (KM k0 0 0 Qp) FN 0 0 M_X1_startRow 2 [some (aR 53), some (aI v1), some (aI y.1)] [] y.2) (hout0 : ∀ y : Hp, P (.inr y) → ATk (KM k0 0 0 Qp) FN 0 0 M_X1_startRow 15 [none, none, none] [] y) (hh : OK (X1_startRow_l2 v1 x) P) : ATk (KM k0 0 0 Qp) FN 0 0 M_X1_startRow 2 [some (aR 53), some (aI v1), some (aI x.1)] [] x.2 := by
  unfold X1_startRow_l2 at hh
  refine A_blk hM.1 2 (lv1 := [some (aR 53), some (aI v1), some (aI x.1)]) (s1 := [aI v1, aI x.1]) (h1 := x.2) rfl ?_
  refine A_icmp hM.1 rfl rfl (fun hc => ?_) (fun hc => ?_)
  · replace hh := OK_t hh hc
    refine A_mask [false, false, false] (lv1 := [none, none, none]) rfl ?_
    exact hout0 x.2 hh
  · replace hh := OK_f hh hc
    refine A_blk hM.1 2 (lv1 := [some (aR 53), some (aI v1), some (aI x.1)]) (s1 := [aI 9, aI x.1]) (h1 := x.2) rfl ?_
    refine A_icmp hM.1 rfl rfl (fun hc => ?_) (fun hc => ?_)
    · replace hh := OK_t hh hc
      refine A_mask [false, false, false] (lv1 := [none, none, none]) rfl ?_
      exact hout0 x.2 hh
    · replace hh := OK_f hh hc
      refine A_blk hM.1 4 (lv1 := [some (aR 53), some (aI v1), some (aI x.1)]) (s1 := [aI x.1, aI x.1, aR 54]) (h1 := x.2) rfl ?_
      obtain ⟨g1, hh⟩ := OK_g hh
      refine A_ast hM.1 rfl (Or.inl ⟨rfl, rfl, rfl⟩) rfl rfl rfl g1 ?_
      refine A_blk hM.1 1 (lv1 := [some (aR 53), some (aI v1), some (aI (x.1 + 1))]) (s1 := []) (h1 := setH x.2 54 ((w32 x.1).toNat) x.1) rfl ?_
      refine A_go hM.1 rfl rfl ?_
      exact hin (x.1 + 1, setH x.2 54 ((w32 x.1).toNat) x.1) hh

set_option maxRecDepth 20000 in
set_option maxHeartbeats 4000000 in
theorem c_X1_startRow {k0 : K0} {G : Gx} {Qp : Option AV → Fx → Hp → Prop} (hM : MB (KM k0 0 0 Qp) G M_X1_startRow 1) (v1 : Int) (h : Hp)   {P : Hp → Prop} (hq : ∀ z : Hp, P z → Qp none FN z) (hh : OK (X1_startRow v1 h) P) : ATk (KM k0 0 0 Qp) FN 0 0 M_X1_startRow 0 [some (aR 53), some (aI v1), none] [] h := by
  unfold X1_startRow at hh
  refine A_blk hM.1 2 (lv1 := [some (aR 53), some (aI v1), some (aI 0)]) (s1 := []) (h1 := h) rfl ?_
  refine iter_ok (s := (0, h)) (Gp := fun z => ATk (KM k0 0 0 Qp) FN 0 0 M_X1_startRow 2 [some (aR 53), some (aI v1), some (aI z.1)] [] z.2) (E := fun z => ATk (KM k0 0 0 Qp) FN 0 0 M_X1_startRow 15 [none, none, none] [] z) (fun z P1 g1 g2 g3 => c_X1_startRow_l2 hM v1 z g2 g3 g1) (OK_bind hh) (fun x2 hh => ?_)
  exact A_retv hM.1 rfl rfl rfl (hq x2 hh)

set_option maxRecDepth 20000 in
set_option maxHeartbeats 4000000 in
theorem ct_X1_startRow {G : Gx} (v1 : Int) (h : Hp)   {P : Hp → Prop} (hh : OK (X1_startRow v1 h) P) : CT G yX1_startRow M_X1_startRow 1 0 0 FN h [aR 53, aI v1] (fun r F' h' => F' = FN ∧ r = none ∧ P h') :=
  CT.of (by decide +kernel) rfl (Nat.le_of_ble_eq_true rfl) k_X1_startRow fun k0 _ _ hM => c_X1_startRow hM v1 h (fun z hz => ⟨rfl, rfl, hz⟩) hh

