set_option linter.all false
theorem mi_X6_readPiece : MIv yX6_readPiece M_X6_readPiece 1 := ⟨⟨(mem_GW 874 (by decide +kernel) rfl), (mem_GW 126 (by decide +kernel) rfl), by decide +kernel, by decide +kernel, by decide +kernel, by decide⟩, (mem_GW 873 (by decide +kernel) rfl), (mem_GW 16 (by decide +kernel) rfl)⟩
theorem mi_X6_readPart : MIv yX6_readPart M_X6_readPart 1 := ⟨⟨(mem_GW 870 (by decide +kernel) rfl), (mem_GW 126 (by decide +kernel) rfl), by decide +kernel, by decide +kernel, by decide +kernel, by decide⟩, (mem_GW 869 (by decide +kernel) rfl), (mem_GW 15 (by decide +kernel) rfl)⟩
theorem mi_X6_readChoice : MIv yX6_readChoice M_X6_readChoice 1 := ⟨⟨(mem_GW 866 (by decide +kernel) rfl), (mem_GW 126 (by decide +kernel) rfl), by decide +kernel, by decide +kernel, by decide +kernel, by decide⟩, (mem_GW 865 (by decide +kernel) rfl), (mem_GW 14 (by decide +kernel) rfl)⟩
def RC54 (G : Gx) (tag d : Nat) (v : Int) (h : Hp) (P : Hp → Prop) : Prop := match tag with
  | 0 => CT G yX6_readPiece M_X6_readPiece d 0 0 FN h [aR 18, aI v] (fun r F' h' => F' = FN ∧ r = none ∧ P h')
  | 1 => CT G yX6_readPart M_X6_readPart d 0 0 FN h [aR 18, aI v] (fun r F' h' => F' = FN ∧ r = none ∧ P h')
  | _ => CT G yX6_readChoice M_X6_readChoice d 0 0 FN h [aR 18, aI v] (fun r F' h' => F' = FN ∧ r = none ∧ P h')
set_option maxRecDepth 20000 in
set_option maxHeartbeats 4000000 in
theorem c_X6_readPiece {d : Nat} {k0 : K0} {G : Gx} {Qp : Option AV → Fx → Hp → Prop} (hM : MB (KM k0 0 0 Qp) G M_X6_readPiece (d + 1)) (rec : Nat → Int → Hp → Option Hp) (v1 : Int) (h : Hp)  (hrec : ∀ (tag : Nat) (v : Int) (h : Hp) (P : Hp → Prop), OK (rec tag v h) P → RC54 G tag d v h P) (hd : 69 ≤ d) {P : Hp → Prop} (hq : ∀ z : Hp, P z → Qp none FN z) (hh : OK (X6_readPiece rec v1 h) P) : ATk (KM k0 0 0 Qp) FN 0 0 M_X6_readPiece 0 [some (aR 18), some (aI v1)] [] h := by
  unfold X6_readPiece at hh
  refine A_blk hM.1 2 (lv1 := [some (aR 18), some (aI v1)]) (s1 := [aI (h 18 4)]) (h1 := h) rfl ?_
  refine A_ifc hM.1 rfl rfl (fun hc => ?_) (fun hc => ?_)
  · replace hh := OK_t hh hc
    refine A_blk hM.1 1 (lv1 := [some (aR 18), some (aI v1)]) (s1 := [aR 18]) (h1 := h) rfl ?_
    refine A_callV hM rfl rfl (mem_GW 727 (by decide +kernel) rfl) mi_X6_next (As := []) (rest := []) (ct_X6_next h (OK_bind hh)) (by omega) ⟨Nat.zero_le _, Nat.zero_le _⟩ rfl rfl (Nat.le_of_ble_eq_true rfl) (by decide) rfl (by decide) rfl (fun r F' h' hq1 => ?_)
    obtain ⟨rfl, r1, rfl, e9, hh⟩ := hq1
    subst h'
    refine A_blk hM.1 1 (lv1 := [some (aR 18), some (aI v1)]) (s1 := [aI 33, aI r1]) (h1 := h) rfl ?_
    refine A_icmp hM.1 rfl rfl (fun hc => ?_) (fun hc => ?_)
    · replace hh := OK_t hh hc
      refine A_blk hM.1 1 (lv1 := [some (aR 18), some (aI v1)]) (s1 := [aR 18]) (h1 := h) rfl ?_
      refine A_callV hM rfl rfl (mem_GW 727 (by decide +kernel) rfl) mi_X6_next (As := []) (rest := []) (ct_X6_next h (OK_bind hh)) (by omega) ⟨Nat.zero_le _, Nat.zero_le _⟩ rfl rfl (Nat.le_of_ble_eq_true rfl) (by decide) rfl (by decide) rfl (fun r F' h' hq1 => ?_)
      obtain ⟨rfl, r2, rfl, e9, hh⟩ := hq1
      subst h'
      refine A_blk hM.1 1 (lv1 := [some (aR 18), some (aI v1)]) (s1 := [aI 40, aI r2]) (h1 := h) rfl ?_
      refine A_icmp hM.1 rfl rfl (fun hc => ?_) (fun hc => ?_)
      · replace hh := OK_t hh hc
        refine A_blk hM.1 2 (lv1 := [some (aR 18), some (aI v1)]) (s1 := [aI v1, aR 18]) (h1 := h) rfl ?_
        refine A_callV hM rfl rfl (mem_GW 875 (by decide +kernel) rfl) mi_X6_readComparison (As := [aI v1]) (rest := []) (ct_X6_readComparison v1 h (OK_bind hh)) (by omega) ⟨Nat.zero_le _, Nat.zero_le _⟩ rfl rfl (Nat.le_of_ble_eq_true rfl) (by decide) rfl (by decide) rfl (fun r F' h' hq1 => ?_)
        obtain ⟨rfl, rfl, hh⟩ := hq1
        obtain ⟨r3, rfl⟩ : ∃ z, z = h' := ⟨_, rfl⟩
        exact A_retv hM.1 rfl rfl rfl (hq r3 hh)
      · replace hh := OK_f hh hc
        refine A_blk hM.1 4 (lv1 := [some (aR 18), some (aI v1)]) (s1 := [aI (v1 + 1), aR 18]) (h1 := h) rfl ?_
        refine A_callV hM rfl rfl (mem_GW 838 (by decide +kernel) rfl) mi_X6_opens (As := [aI (v1 + 1)]) (rest := []) (ct_X6_opens (v1 + 1) h (OK_bind hh)) (by omega) ⟨Nat.zero_le _, Nat.zero_le _⟩ rfl rfl (Nat.le_of_ble_eq_true rfl) (by decide) rfl (by decide) rfl (fun r F' h' hq1 => ?_)
        obtain ⟨rfl, r4, rfl, e9, hh⟩ := hq1
        subst h'
        refine A_ifc hM.1 rfl rfl (fun hc => ?_) (fun hc => ?_)
        · replace hh := OK_t hh hc
          exact A_retv hM.1 rfl rfl rfl (hq r4.2 hh)
        · replace hh := OK_f hh hc
          refine A_blk hM.1 4 (lv1 := [some (aR 18), some (aI v1)]) (s1 := [aI (v1 + 1), aR 18]) (h1 := r4.2) rfl ?_
          refine A_callV hM rfl rfl (mem_GW 863 (by decide +kernel) rfl) mi_X6_readChoice (As := [aI (v1 + 1)]) (rest := []) (hrec 2 _ _ _ (OK_bind hh)) (Nat.lt_succ_self _) ⟨Nat.zero_le _, Nat.zero_le _⟩ rfl rfl (Nat.le_of_ble_eq_true rfl) (by decide) rfl (by decide) rfl (fun r F' h' hq1 => ?_)
          obtain ⟨rfl, rfl, hh⟩ := hq1
          obtain ⟨r5, rfl⟩ : ∃ z, z = h' := ⟨_, rfl⟩
          refine A_blk hM.1 2 (lv1 := [some (aR 18), some (aI v1)]) (s1 := [aI 41, aR 18]) (h1 := r5) rfl ?_
          refine A_callV hM rfl rfl (mem_GW 842 (by decide +kernel) rfl) mi_X6_expect (As := [aI 41]) (rest := []) (ct_X6_expect 41 r5 (OK_bind hh)) (by omega) ⟨Nat.zero_le _, Nat.zero_le _⟩ rfl rfl (Nat.le_of_ble_eq_true rfl) (by decide) rfl (by decide) rfl (fun r F' h' hq1 => ?_)
          obtain ⟨rfl, rfl, hh⟩ := hq1
          obtain ⟨r6, rfl⟩ : ∃ z, z = h' := ⟨_, rfl⟩
          refine A_go hM.1 rfl rfl ?_
          exact A_retv hM.1 rfl rfl rfl (hq r6 hh)
    · replace hh := OK_f hh hc
      refine A_blk hM.1 4 (lv1 := [some (aR 18), some (aI v1)]) (s1 := [aI (v1 + 1), aR 18]) (h1 := h) rfl ?_
      refine A_callV hM rfl rfl (mem_GW 838 (by decide +kernel) rfl) mi_X6_opens (As := [aI (v1 + 1)]) (rest := []) (ct_X6_opens (v1 + 1) h (OK_bind hh)) (by omega) ⟨Nat.zero_le _, Nat.zero_le _⟩ rfl rfl (Nat.le_of_ble_eq_true rfl) (by decide) rfl (by decide) rfl (fun r F' h' hq1 => ?_)
      obtain ⟨rfl, r7, rfl, e9, hh⟩ := hq1
      subst h'
      refine A_ifc hM.1 rfl rfl (fun hc => ?_) (fun hc => ?_)
      · replace hh := OK_t hh hc
        exact A_retv hM.1 rfl rfl rfl (hq r7.2 hh)
      · replace hh := OK_f hh hc
        refine A_blk hM.1 4 (lv1 := [some (aR 18), some (aI v1)]) (s1 := [aI (v1 + 1), aR 18]) (h1 := r7.2) rfl ?_
        refine A_callV hM rfl rfl (mem_GW 871 (by decide +kernel) rfl) mi_X6_readPiece (As := [aI (v1 + 1)]) (rest := []) (hrec 0 _ _ _ (OK_bind hh)) (Nat.lt_succ_self _) ⟨Nat.zero_le _, Nat.zero_le _⟩ rfl rfl (Nat.le_of_ble_eq_true rfl) (by decide) rfl (by decide) rfl (fun r F' h' hq1 => ?_)
        obtain ⟨rfl, rfl, hh⟩ := hq1
        obtain ⟨r8, rfl⟩ : ∃ z, z = h' := ⟨_, rfl⟩
        refine A_blk hM.1 4 (lv1 := [some (aR 18), some (aI v1)]) (s1 := [aI 0, aI 33, aR 19]) (h1 := r8) rfl ?_
        refine A_callV hM rfl rfl (mem_GW 851 (by decide +kernel) rfl) mi_X10_add (As := [aI 33, aI 0]) (rest := []) (ct_X10_add 19 33 0 r8 (by decide) (OK_bind hh)) (by omega) ⟨Nat.zero_le _, Nat.zero_le _⟩ rfl rfl (Nat.le_of_ble_eq_true rfl) (by decide) rfl (by decide) rfl (fun r F' h' hq1 => ?_)
        obtain ⟨rfl, rfl, hh⟩ := hq1
        obtain ⟨r9, rfl⟩ : ∃ z, z = h' := ⟨_, rfl⟩
        refine A_go hM.1 rfl rfl ?_
        exact A_retv hM.1 rfl rfl rfl (hq r9 hh)
  · replace hh := OK_f hh hc
    exact A_retv hM.1 rfl rfl rfl (hq h hh)

set_option maxRecDepth 20000 in
set_option maxHeartbeats 4000000 in
theorem ct_X6_readPiece {d : Nat} {G : Gx} (rec : Nat → Int → Hp → Option Hp) (v1 : Int) (h : Hp)  (hrec : ∀ (tag : Nat) (v : Int) (h : Hp) (P : Hp → Prop), OK (rec tag v h) P → RC54 G tag d v h P) (hd : 69 ≤ d) {P : Hp → Prop} (hh : OK (X6_readPiece rec v1 h) P) : CT G yX6_readPiece M_X6_readPiece (d + 1) 0 0 FN h [aR 18, aI v1] (fun r F' h' => F' = FN ∧ r = none ∧ P h') :=
  CT.of (by decide +kernel) rfl (Nat.le_of_ble_eq_true rfl) k_X6_readPiece fun k0 _ _ hM => c_X6_readPiece hM rec v1 h hrec hd (fun z hz => ⟨rfl, rfl, hz⟩) hh
set_option maxRecDepth 20000 in
set_option maxHeartbeats 4000000 in
theorem c_X6_readPart_l5 {d : Nat} {k0 : K0} {G : Gx} {Qp : Option AV → Fx → Hp → Prop} (hM : MB (KM k0 0 0 Qp) G M_X6_readPart (d + 1)) (rec : Nat → Int → Hp → Option Hp) (v1 : Int) (x : Int × Hp)  (hrec : ∀ (tag : Nat) (v : Int) (h : Hp) (P : Hp → Prop), OK (rec tag v h) P → RC54 G tag d v h P) (hd : 69 ≤ d) {P : ((Int × Hp) ⊕ (Hp)) → Prop} (hin : ∀ y : Int × Hp, P (.inl y) → ATk (KM k0 0 0 Qp) FN 0 0 M_X6_readPart 5 [some (aR 18), some (aI v1), some (aI y.1), none] [] y.2) (hout0 : ∀ y : Hp, P (.inr y) → ATk (KM k0 0 0 Qp) FN 0 0 M_X6_readPart 36 [none, none, none, none] [] y) (hh : OK (X6_readPart_l5 rec v1 x) P) : ATk (KM k0 0 0 Qp) FN 0 0 M_X6_readPart 5 [some (aR 18), some (aI v1), some (aI x.1), none] [] x.2 := by
  unfold X6_readPart_l5 at hh
  refine A_blk hM.1 2 (lv1 := [some (aR 18), some (aI v1), some (aI x.1), none]) (s1 := [aI 160, aI x.1]) (h1 := x.2) rfl ?_
  refine A_icmp hM.1 rfl rfl (fun hc => ?_) (fun hc => ?_)
  · replace hh := OK_t hh hc
    refine A_mask [false, false, false, true] (lv1 := [none, none, none, none]) rfl ?_
    exact hout0 x.2 hh
  · replace hh := OK_f hh hc
    refine A_blk hM.1 1 (lv1 := [some (aR 18), some (aI v1), some (aI x.1), none]) (s1 := [aR 18]) (h1 := x.2) rfl ?_
    refine A_ldcs hM.1 rfl rfl (j := 5) (by decide) rfl rfl ?_
    refine A_callV hM rfl rfl (mem_GW 723 (by decide +kernel) rfl) mi_X6_nextIsOf (As := [aR 1005]) (rest := []) (ct_X6_nextIsOf 5 x.2 (by decide) (OK_bind hh)) (by omega) ⟨Nat.zero_le _, Nat.zero_le _⟩ rfl rfl (Nat.le_of_ble_eq_true rfl) (by decide) rfl (by decide) rfl (fun r F' h' hq1 => ?_)
    obtain ⟨rfl, r2, rfl, e9, hh⟩ := hq1
    subst h'
    refine A_ifc hM.1 rfl rfl (fun hc => ?_) (fun hc => ?_)
    · replace hh := OK_t hh hc
      refine A_mask [false, false, false, true] (lv1 := [none, none, none, none]) rfl ?_
      exact hout0 x.2 hh
    · replace hh := OK_f hh hc
      refine A_blk hM.1 2 (lv1 := [some (aR 18), some (aI v1), some (aI x.1), none]) (s1 := [aR 19]) (h1 := x.2) rfl ?_
      refine A_callV hM rfl rfl (mem_GW 881 (by decide +kernel) rfl) mi_X10_size (As := []) (rest := []) (ct_X10_size 19 x.2 (by decide) (OK_bind hh)) (by omega) ⟨Nat.zero_le _, Nat.zero_le _⟩ rfl rfl (Nat.le_of_ble_eq_true rfl) (by decide) rfl (by decide) rfl (fun r F' h' hq1 => ?_)
      obtain ⟨rfl, r3, rfl, e9, hh⟩ := hq1
      subst h'
      refine A_blk hM.1 5 (lv1 := [some (aR 18), some (aI v1), some (aI x.1), some (aI r3)]) (s1 := [aI 0, aI 38, aR 19]) (h1 := x.2) rfl ?_
      refine A_callV hM rfl rfl (mem_GW 851 (by decide +kernel) rfl) mi_X10_add (As := [aI 38, aI 0]) (rest := []) (ct_X10_add 19 38 0 x.2 (by decide) (OK_bind hh)) (by omega) ⟨Nat.zero_le _, Nat.zero_le _⟩ rfl rfl (Nat.le_of_ble_eq_true rfl) (by decide) rfl (by decide) rfl (fun r F' h' hq1 => ?_)
      obtain ⟨rfl, rfl, hh⟩ := hq1
      obtain ⟨r4, rfl⟩ : ∃ z, z = h' := ⟨_, rfl⟩
      refine A_blk hM.1 8 (lv1 := [some (aR 18), some (aI v1), some (aI x.1), some (aI r3)]) (s1 := [aI v1, aR 18]) (h1 := setH r4 18 3 ((r4 18 3) + 1)) rfl ?_
      refine A_callV hM rfl rfl (mem_GW 871 (by decide +kernel) rfl) mi_X6_readPiece (As := [aI v1]) (rest := []) (hrec 0 _ _ _ (OK_bind hh)) (Nat.lt_succ_self _) ⟨Nat.zero_le _, Nat.zero_le _⟩ rfl rfl (Nat.le_of_ble_eq_true rfl) (by decide) rfl (by decide) rfl (fun r F' h' hq1 => ?_)
      obtain ⟨rfl, rfl, hh⟩ := hq1
      obtain ⟨r5, rfl⟩ : ∃ z, z = h' := ⟨_, rfl⟩
      refine A_blk hM.1 3 (lv1 := [some (aR 18), some (aI v1), some (aI x.1), some (aI r3)]) (s1 := [aI r3, aR 19]) (h1 := r5) rfl ?_
      refine A_callV hM rfl rfl (mem_GW 885 (by decide +kernel) rfl) mi_X10_aim (As := [aI r3]) (rest := []) (ct_X10_aim 19 r3 r5 (by decide) (OK_bind hh)) (by omega) ⟨Nat.zero_le _, Nat.zero_le _⟩ rfl rfl (Nat.le_of_ble_eq_true rfl) (by decide) rfl (by decide) rfl (fun r F' h' hq1 => ?_)
      obtain ⟨rfl, rfl, hh⟩ := hq1
      obtain ⟨r6, rfl⟩ : ∃ z, z = h' := ⟨_, rfl⟩
      refine A_blk hM.1 1 (lv1 := [some (aR 18), some (aI v1), some (aI (x.1 + 1)), some (aI r3)]) (s1 := []) (h1 := r6) rfl ?_
      refine A_go hM.1 rfl rfl ?_
      refine A_mask [true, true, true, false] (lv1 := [some (aR 18), some (aI v1), some (aI (x.1 + 1)), none]) rfl ?_
      exact hin (x.1 + 1, r6) hh

set_option maxRecDepth 20000 in
set_option maxHeartbeats 4000000 in
theorem c_X6_readPart {d : Nat} {k0 : K0} {G : Gx} {Qp : Option AV → Fx → Hp → Prop} (hM : MB (KM k0 0 0 Qp) G M_X6_readPart (d + 1)) (rec : Nat → Int → Hp → Option Hp) (v1 : Int) (h : Hp)  (hrec : ∀ (tag : Nat) (v : Int) (h : Hp) (P : Hp → Prop), OK (rec tag v h) P → RC54 G tag d v h P) (hd : 69 ≤ d) {P : Hp → Prop} (hq : ∀ z : Hp, P z → Qp none FN z) (hh : OK (X6_readPart rec v1 h) P) : ATk (KM k0 0 0 Qp) FN 0 0 M_X6_readPart 0 [some (aR 18), some (aI v1), none, none] [] h := by
  unfold X6_readPart at hh
  refine A_blk hM.1 2 (lv1 := [some (aR 18), some (aI v1), none, none]) (s1 := [aI v1, aR 18]) (h1 := h) rfl ?_
  refine A_callV hM rfl rfl (mem_GW 871 (by decide +kernel) rfl) mi_X6_readPiece (As := [aI v1]) (rest := []) (hrec 0 _ _ _ (OK_bind hh)) (Nat.lt_succ_self _) ⟨Nat.zero_le _, Nat.zero_le _⟩ rfl rfl (Nat.le_of_ble_eq_true rfl) (by decide) rfl (by decide) rfl (fun r F' h' hq1 => ?_)
  obtain ⟨rfl, rfl, hh⟩ := hq1
  obtain ⟨r1, rfl⟩ : ∃ z, z = h' := ⟨_, rfl⟩
  refine A_blk hM.1 2 (lv1 := [some (aR 18), some (aI v1), some (aI 0), none]) (s1 := []) (h1 := r1) rfl ?_
  refine iter_ok (s := (0, r1)) (Gp := fun z => ATk (KM k0 0 0 Qp) FN 0 0 M_X6_readPart 5 [some (aR 18), some (aI v1), some (aI z.1), none] [] z.2) (E := fun z => ATk (KM k0 0 0 Qp) FN 0 0 M_X6_readPart 36 [none, none, none, none] [] z) (fun z P1 g1 g2 g3 => c_X6_readPart_l5 hM rec v1 z hrec hd g2 g3 g1) (OK_bind hh) (fun x7 hh => ?_)
  exact A_retv hM.1 rfl rfl rfl (hq x7 hh)

set_option maxRecDepth 20000 in
set_option maxHeartbeats 4000000 in
theorem ct_X6_readPart {d : Nat} {G : Gx} (rec : Nat → Int → Hp → Option Hp) (v1 : Int) (h : Hp)  (hrec : ∀ (tag : Nat) (v : Int) (h : Hp) (P : Hp → Prop), OK (rec tag v h) P → RC54 G tag d v h P) (hd : 69 ≤ d) {P : Hp → Prop} (hh : OK (X6_readPart rec v1 h) P) : CT G yX6_readPart M_X6_readPart (d + 1) 0 0 FN h [aR 18, aI v1] (fun r F' h' => F' = FN ∧ r = none ∧ P h') :=
  CT.of (by decide +kernel) rfl (Nat.le_of_ble_eq_true rfl) k_X6_readPart fun k0 _ _ hM => c_X6_readPart hM rec v1 h hrec hd (fun z hz => ⟨rfl, rfl, hz⟩) hh
set_option maxRecDepth 20000 in
set_option maxHeartbeats 4000000 in
theorem c_X6_readChoice_l5 {d : Nat} {k0 : K0} {G : Gx} {Qp : Option AV → Fx → Hp → Prop} (hM : MB (KM k0 0 0 Qp) G M_X6_readChoice (d + 1)) (rec : Nat → Int → Hp → Option Hp) (v1 : Int) (x : Int × Hp)  (hrec : ∀ (tag : Nat) (v : Int) (h : Hp) (P : Hp → Prop), OK (rec tag v h) P → RC54 G tag d v h P) (hd : 69 ≤ d) {P : ((Int × Hp) ⊕ (Hp)) → Prop} (hin : ∀ y : Int × Hp, P (.inl y) → ATk (KM k0 0 0 Qp) FN 0 0 M_X6_readChoice 5 [some (aR 18), some (aI v1), some (aI y.1), none] [] y.2) (hout0 : ∀ y : Hp, P (.inr y) → ATk (KM k0 0 0 Qp) FN 0 0 M_X6_readChoice 36 [none, none, none, none] [] y) (hh : OK (X6_readChoice_l5 rec v1 x) P) : ATk (KM k0 0 0 Qp) FN 0 0 M_X6_readChoice 5 [some (aR 18), some (aI v1), some (aI x.1), none] [] x.2 := by
  unfold X6_readChoice_l5 at hh
  refine A_blk hM.1 2 (lv1 := [some (aR 18), some (aI v1), some (aI x.1), none]) (s1 := [aI 160, aI x.1]) (h1 := x.2) rfl ?_
  refine A_icmp hM.1 rfl rfl (fun hc => ?_) (fun hc => ?_)
  · replace hh := OK_t hh hc
    refine A_mask [false, false, false, true] (lv1 := [none, none, none, none]) rfl ?_
    exact hout0 x.2 hh
  · replace hh := OK_f hh hc
    refine A_blk hM.1 1 (lv1 := [some (aR 18), some (aI v1), some (aI x.1), none]) (s1 := [aR 18]) (h1 := x.2) rfl ?_
    refine A_ldcs hM.1 rfl rfl (j := 6) (by decide) rfl rfl ?_
    refine A_callV hM rfl rfl (mem_GW 723 (by decide +kernel) rfl) mi_X6_nextIsOf (As := [aR 1006]) (rest := []) (ct_X6_nextIsOf 6 x.2 (by decide) (OK_bind hh)) (by omega) ⟨Nat.zero_le _, Nat.zero_le _⟩ rfl rfl (Nat.le_of_ble_eq_true rfl) (by decide) rfl (by decide) rfl (fun r F' h' hq1 => ?_)
    obtain ⟨rfl, r2, rfl, e9, hh⟩ := hq1
    subst h'
    refine A_ifc hM.1 rfl rfl (fun hc => ?_) (fun hc => ?_)
    · replace hh := OK_t hh hc
      refine A_mask [false, false, false, true] (lv1 := [none, none, none, none]) rfl ?_
      exact hout0 x.2 hh
    · replace hh := OK_f hh hc
      refine A_blk hM.1 2 (lv1 := [some (aR 18), some (aI v1), some (aI x.1), none]) (s1 := [aR 19]) (h1 := x.2) rfl ?_
      refine A_callV hM rfl rfl (mem_GW 881 (by decide +kernel) rfl) mi_X10_size (As := []) (rest := []) (ct_X10_size 19 x.2 (by decide) (OK_bind hh)) (by omega) ⟨Nat.zero_le _, Nat.zero_le _⟩ rfl rfl (Nat.le_of_ble_eq_true rfl) (by decide) rfl (by decide) rfl (fun r F' h' hq1 => ?_)
      obtain ⟨rfl, r3, rfl, e9, hh⟩ := hq1
      subst h'
      refine A_blk hM.1 5 (lv1 := [some (aR 18), some (aI v1), some (aI x.1), some (aI r3)]) (s1 := [aI 0, aI 124, aR 19]) (h1 := x.2) rfl ?_
      refine A_callV hM rfl rfl (mem_GW 851 (by decide +kernel) rfl) mi_X10_add (As := [aI 124, aI 0]) (rest := []) (ct_X10_add 19 124 0 x.2 (by decide) (OK_bind hh)) (by omega) ⟨Nat.zero_le _, Nat.zero_le _⟩ rfl rfl (Nat.le_of_ble_eq_true rfl) (by decide) rfl (by decide) rfl (fun r F' h' hq1 => ?_)
      obtain ⟨rfl, rfl, hh⟩ := hq1
      obtain ⟨r4, rfl⟩ : ∃ z, z = h' := ⟨_, rfl⟩
      refine A_blk hM.1 8 (lv1 := [some (aR 18), some (aI v1), some (aI x.1), some (aI r3)]) (s1 := [aI v1, aR 18]) (h1 := setH r4 18 3 ((r4 18 3) + 1)) rfl ?_
      refine A_callV hM rfl rfl (mem_GW 867 (by decide +kernel) rfl) mi_X6_readPart (As := [aI v1]) (rest := []) (hrec 1 _ _ _ (OK_bind hh)) (Nat.lt_succ_self _) ⟨Nat.zero_le _, Nat.zero_le _⟩ rfl rfl (Nat.le_of_ble_eq_true rfl) (by decide) rfl (by decide) rfl (fun r F' h' hq1 => ?_)
      obtain ⟨rfl, rfl, hh⟩ := hq1
      obtain ⟨r5, rfl⟩ : ∃ z, z = h' := ⟨_, rfl⟩
      refine A_blk hM.1 3 (lv1 := [some (aR 18), some (aI v1), some (aI x.1), some (aI r3)]) (s1 := [aI r3, aR 19]) (h1 := r5) rfl ?_
      refine A_callV hM rfl rfl (mem_GW 885 (by decide +kernel) rfl) mi_X10_aim (As := [aI r3]) (rest := []) (ct_X10_aim 19 r3 r5 (by decide) (OK_bind hh)) (by omega) ⟨Nat.zero_le _, Nat.zero_le _⟩ rfl rfl (Nat.le_of_ble_eq_true rfl) (by decide) rfl (by decide) rfl (fun r F' h' hq1 => ?_)
      obtain ⟨rfl, rfl, hh⟩ := hq1
      obtain ⟨r6, rfl⟩ : ∃ z, z = h' := ⟨_, rfl⟩
      refine A_blk hM.1 1 (lv1 := [some (aR 18), some (aI v1), some (aI (x.1 + 1)), some (aI r3)]) (s1 := []) (h1 := r6) rfl ?_
      refine A_go hM.1 rfl rfl ?_
      refine A_mask [true, true, true, false] (lv1 := [some (aR 18), some (aI v1), some (aI (x.1 + 1)), none]) rfl ?_
      exact hin (x.1 + 1, r6) hh

set_option maxRecDepth 20000 in
set_option maxHeartbeats 4000000 in
theorem c_X6_readChoice {d : Nat} {k0 : K0} {G : Gx} {Qp : Option AV → Fx → Hp → Prop} (hM : MB (KM k0 0 0 Qp) G M_X6_readChoice (d + 1)) (rec : Nat → Int → Hp → Option Hp) (v1 : Int) (h : Hp)  (hrec : ∀ (tag : Nat) (v : Int) (h : Hp) (P : Hp → Prop), OK (rec tag v h) P → RC54 G tag d v h P) (hd : 69 ≤ d) {P : Hp → Prop} (hq : ∀ z : Hp, P z → Qp none FN z) (hh : OK (X6_readChoice rec v1 h) P) : ATk (KM k0 0 0 Qp) FN 0 0 M_X6_readChoice 0 [some (aR 18), some (aI v1), none, none] [] h := by
  unfold X6_readChoice at hh
  refine A_blk hM.1 2 (lv1 := [some (aR 18), some (aI v1), none, none]) (s1 := [aI v1, aR 18]) (h1 := h) rfl ?_
  refine A_callV hM rfl rfl (mem_GW 867 (by decide +kernel) rfl) mi_X6_readPart (As := [aI v1]) (rest := []) (hrec 1 _ _ _ (OK_bind hh)) (Nat.lt_succ_self _) ⟨Nat.zero_le _, Nat.zero_le _⟩ rfl rfl (Nat.le_of_ble_eq_true rfl) (by decide) rfl (by decide) rfl (fun r F' h' hq1 => ?_)
  obtain ⟨rfl, rfl, hh⟩ := hq1
  obtain ⟨r1, rfl⟩ : ∃ z, z = h' := ⟨_, rfl⟩
  refine A_blk hM.1 2 (lv1 := [some (aR 18), some (aI v1), some (aI 0), none]) (s1 := []) (h1 := r1) rfl ?_
  refine iter_ok (s := (0, r1)) (Gp := fun z => ATk (KM k0 0 0 Qp) FN 0 0 M_X6_readChoice 5 [some (aR 18), some (aI v1), some (aI z.1), none] [] z.2) (E := fun z => ATk (KM k0 0 0 Qp) FN 0 0 M_X6_readChoice 36 [none, none, none, none] [] z) (fun z P1 g1 g2 g3 => c_X6_readChoice_l5 hM rec v1 z hrec hd g2 g3 g1) (OK_bind hh) (fun x7 hh => ?_)
  exact A_retv hM.1 rfl rfl rfl (hq x7 hh)

set_option maxRecDepth 20000 in
set_option maxHeartbeats 4000000 in
theorem ct_X6_readChoice {d : Nat} {G : Gx} (rec : Nat → Int → Hp → Option Hp) (v1 : Int) (h : Hp)  (hrec : ∀ (tag : Nat) (v : Int) (h : Hp) (P : Hp → Prop), OK (rec tag v h) P → RC54 G tag d v h P) (hd : 69 ≤ d) {P : Hp → Prop} (hh : OK (X6_readChoice rec v1 h) P) : CT G yX6_readChoice M_X6_readChoice (d + 1) 0 0 FN h [aR 18, aI v1] (fun r F' h' => F' = FN ∧ r = none ∧ P h') :=
  CT.of (by decide +kernel) rfl (Nat.le_of_ble_eq_true rfl) k_X6_readChoice fun k0 _ _ hM => c_X6_readChoice hM rec v1 h hrec hd (fun z hz => ⟨rfl, rfl, hz⟩) hh
theorem ct_Rec54 {G : Gx} : ∀ (n tag : Nat) (v : Int) (h : Hp) (P : Hp → Prop), OK (Rec54 n tag v h) P → RC54 G tag (n + 69) v h P
  | 0, _, _, _, _, hh => absurd hh (by simp [Rec54, OK])
  | n + 1, tag, v, h, P, hh => by
    have e : n + 1 + 69 = n + 69 + 1 := by omega
    rw [e]
    match tag, hh with
    | 0, hh => exact ct_X6_readPiece (d := n + 69) (Rec54 n) v h (ct_Rec54 n) (by omega) hh
    | 1, hh => exact ct_X6_readPart (d := n + 69) (Rec54 n) v h (ct_Rec54 n) (by omega) hh
    | _ + 2, hh => exact ct_X6_readChoice (d := n + 69) (Rec54 n) v h (ct_Rec54 n) (by omega) hh

theorem mi_X10_endClause : MIv yX10_endClause M_X10_endClause 0 := ⟨⟨(mem_GW 893 (by decide +kernel) rfl), (mem_GW 127 (by decide +kernel) rfl), by decide +kernel, by decide +kernel, by decide +kernel, by decide⟩, (mem_GW 891 (by decide +kernel) rfl), (mem_GW 892 (by decide +kernel) rfl)⟩
set_option maxRecDepth 20000 in
set_option maxHeartbeats 4000000 in
theorem c_X10_endClause {k0 : K0} {G : Gx} {Qp : Option AV → Fx → Hp → Prop} (hM : MB (KM k0 0 0 Qp) G M_X10_endClause 2) (t : Nat) (h : Hp)  (ht : t ∈ txL) {P : Hp → Prop} (hq : ∀ z : Hp, P z → Qp none FN z) (hh : OK (X10_endClause t h) P) : ATk (KM k0 0 0 Qp) FN 0 0 M_X10_endClause 0 [some (aR t)] [] h := by
  unfold X10_endClause at hh
  refine A_blk hM.1 1 (lv1 := [some (aR t)]) (s1 := [aR t]) (h1 := h) rfl ?_
  refine A_gr hM.1 rfl rfl rfl (tx_k0 ht) (tx_l0 ht) (Nat.lt_trans (tx_l3 ht) NF_lt) (tx_r4 ht) rfl ?_
  refine A_blk hM.1 1 (lv1 := [some (aR t)]) (s1 := [aR t, aR (t + 3)]) (h1 := h) rfl ?_
  refine A_gi hM.1 rfl rfl rfl (tx_k0 ht) (tx_l0 ht) rfl ?_
  refine A_blk hM.1 1 (lv1 := [some (aR t)]) (s1 := [aR t, aI (h t 0), aR (t + 3)]) (h1 := h) rfl ?_
  refine A_gi hM.1 rfl rfl rfl (tx_k0 ht) (tx_l0 ht) rfl ?_
  refine A_callSN (host := "QuotedBooks") hM rfl rfl (mem_NW 855 (by decide +kernel) rfl) mi_X11_put ms_X11_put (As := [aR (t + 3), aI (h t 0), aI (h t 1)]) (rest := []) (ct_X11_put (t + 3) 12 (h t 0) (h t 1) h (tx_k3 ht) (tx_n3 ht) (OK_bind hh)) (by decide) ⟨Nat.zero_le _, Nat.zero_le _⟩ rfl rfl (Nat.le_of_ble_eq_true rfl) (fun r F' h' hq1 => ?_)
  obtain ⟨rfl, rfl, hh⟩ := hq1
  obtain ⟨r1, rfl⟩ : ∃ z, z = h' := ⟨_, rfl⟩
  refine A_blk hM.1 2 (lv1 := [some (aR t)]) (s1 := [aR t, aR t]) (h1 := r1) rfl ?_
  refine A_gi hM.1 rfl rfl rfl (tx_k0 ht) (tx_l0 ht) rfl ?_
  refine A_blk hM.1 2 (lv1 := [some (aR t)]) (s1 := [aI ((r1 t 0) + 1), aR t]) (h1 := r1) rfl ?_
  refine A_pi hM.1 rfl rfl rfl (tx_k0 ht) (tx_l0 ht) rfl rfl ?_
  exact A_retv hM.1 rfl rfl rfl (hq (setH r1 t 0 ((r1 t 0) + 1)) hh)

set_option maxRecDepth 20000 in
set_option maxHeartbeats 4000000 in
theorem ct_X10_endClause {G : Gx} (t : Nat) (h : Hp)  (ht : t ∈ txL) {P : Hp → Prop} (hh : OK (X10_endClause t h) P) : CT G yX10_endClause M_X10_endClause 2 0 0 FN h [aR t] (fun r F' h' => F' = FN ∧ r = none ∧ P h') :=
  CT.of (by decide +kernel) rfl (Nat.le_of_ble_eq_true rfl) k_X10_endClause fun k0 _ _ hM => c_X10_endClause hM t h ht (fun z hz => ⟨rfl, rfl, hz⟩) hh

theorem mi_X6_readClause : MIv yX6_readClause M_X6_readClause 1 := ⟨⟨(mem_GW 722 (by decide +kernel) rfl), (mem_GW 126 (by decide +kernel) rfl), by decide +kernel, by decide +kernel, by decide +kernel, by decide⟩, (mem_GW 721 (by decide +kernel) rfl), (mem_GW 4 (by decide +kernel) rfl)⟩
set_option maxRecDepth 20000 in
set_option maxHeartbeats 4000000 in
theorem c_X6_readClause {k0 : K0} {G : Gx} {Qp : Option AV → Fx → Hp → Prop} (hM : MB (KM k0 0 0 Qp) G M_X6_readClause 130) (w : Nat) (h : Hp)  (hw : w < 10) {P : Hp → Prop} (hq : ∀ z : Hp, P z → Qp none FN z) (hh : OK (X6_readClause w h) P) : ATk (KM k0 0 0 Qp) FN 0 0 M_X6_readClause 0 [some (aR 18), some (aR (1000 + w)), none] [] h := by
  unfold X6_readClause at hh
  refine A_blk hM.1 2 (lv1 := [some (aR 18), some (aR (1000 + w)), none]) (s1 := [aR (1000 + w), aR 18]) (h1 := h) rfl ?_
  refine A_callV hM rfl rfl (mem_GW 723 (by decide +kernel) rfl) mi_X6_nextIsOf (As := [aR (1000 + w)]) (rest := []) (ct_X6_nextIsOf w h hw (OK_bind hh)) (by decide) ⟨Nat.zero_le _, Nat.zero_le _⟩ rfl rfl (Nat.le_of_ble_eq_true rfl) (by decide) rfl (by decide) rfl (fun r F' h' hq1 => ?_)
  obtain ⟨rfl, r1, rfl, e9, hh⟩ := hq1
  subst h'
  refine A_ifc hM.1 rfl rfl (fun hc => ?_) (fun hc => ?_)
  · replace hh := OK_t hh hc
    refine A_blk hM.1 2 (lv1 := [some (aR 18), some (aR (1000 + w)), none]) (s1 := [aR 19]) (h1 := h) rfl ?_
    refine A_callV hM rfl rfl (mem_GW 822 (by decide +kernel) rfl) mi_X10_clauses (As := []) (rest := []) (ct_X10_clauses 19 h (by decide) (OK_bind hh)) (by decide) ⟨Nat.zero_le _, Nat.zero_le _⟩ rfl rfl (Nat.le_of_ble_eq_true rfl) (by decide) rfl (by decide) rfl (fun r F' h' hq1 => ?_)
    obtain ⟨rfl, r2, rfl, e9, hh⟩ := hq1
    subst h'
    refine A_blk hM.1 1 (lv1 := [some (aR 18), some (aR (1000 + w)), none]) (s1 := [aI 12, aI r2]) (h1 := h) rfl ?_
    refine A_icmp hM.1 rfl rfl (fun hc => ?_) (fun hc => ?_)
    · replace hh := OK_t hh hc
      refine A_blk hM.1 1 (lv1 := [some (aR 18), some (aR (1000 + w)), none]) (s1 := [aR 18]) (h1 := h) rfl ?_
      refine A_callV hM rfl rfl (mem_GW 727 (by decide +kernel) rfl) mi_X6_next (As := []) (rest := []) (ct_X6_next h (OK_bind hh)) (by decide) ⟨Nat.zero_le _, Nat.zero_le _⟩ rfl rfl (Nat.le_of_ble_eq_true rfl) (by decide) rfl (by decide) rfl (fun r F' h' hq1 => ?_)
      obtain ⟨rfl, r3, rfl, e9, hh⟩ := hq1
      subst h'
      refine A_blk hM.1 9 (lv1 := [some (aR 18), some (aR (1000 + w)), some (aI r3)]) (s1 := [aI 0, aR 18]) (h1 := setH h 18 3 ((h 18 3) + 1)) rfl ?_
      refine A_callV hM rfl rfl (mem_GW 826 (by decide +kernel) rfl) mi_X6_readSum (As := [aI 0]) (rest := []) (ct_Rec49 FR 2 _ _ _ (OK_bind hh)) (by decide) ⟨Nat.zero_le _, Nat.zero_le _⟩ rfl rfl (Nat.le_of_ble_eq_true rfl) (by decide) rfl (by decide) rfl (fun r F' h' hq1 => ?_)
      obtain ⟨rfl, rfl, hh⟩ := hq1
      obtain ⟨r4, rfl⟩ : ∃ z, z = h' := ⟨_, rfl⟩
      refine A_blk hM.1 3 (lv1 := [some (aR 18), some (aR (1000 + w)), some (aI r3)]) (s1 := [aI r3, aR 19]) (h1 := r4) rfl ?_
      refine A_callV hM rfl rfl (mem_GW 859 (by decide +kernel) rfl) mi_X10_endValue (As := [aI r3]) (rest := []) (ct_X10_endValue 19 r3 r4 (by decide) (OK_bind hh)) (by decide) ⟨Nat.zero_le _, Nat.zero_le _⟩ rfl rfl (Nat.le_of_ble_eq_true rfl) (by decide) rfl (by decide) rfl (fun r F' h' hq1 => ?_)
      obtain ⟨rfl, rfl, hh⟩ := hq1
      obtain ⟨r5, rfl⟩ : ∃ z, z = h' := ⟨_, rfl⟩
      refine A_blk hM.1 2 (lv1 := [some (aR 18), some (aR (1000 + w)), some (aI r3)]) (s1 := [aI 40, aR 18]) (h1 := r5) rfl ?_
      refine A_callV hM rfl rfl (mem_GW 842 (by decide +kernel) rfl) mi_X6_expect (As := [aI 40]) (rest := []) (ct_X6_expect 40 r5 (OK_bind hh)) (by decide) ⟨Nat.zero_le _, Nat.zero_le _⟩ rfl rfl (Nat.le_of_ble_eq_true rfl) (by decide) rfl (by decide) rfl (fun r F' h' hq1 => ?_)
      obtain ⟨rfl, rfl, hh⟩ := hq1
      obtain ⟨r6, rfl⟩ : ∃ z, z = h' := ⟨_, rfl⟩
      refine A_blk hM.1 2 (lv1 := [some (aR 18), some (aR (1000 + w)), some (aI r3)]) (s1 := [aI 1, aR 18]) (h1 := r6) rfl ?_
      refine A_callV hM rfl rfl (mem_GW 863 (by decide +kernel) rfl) mi_X6_readChoice (As := [aI 1]) (rest := []) (ct_Rec54 FR 2 _ _ _ (OK_bind hh)) (by decide) ⟨Nat.zero_le _, Nat.zero_le _⟩ rfl rfl (Nat.le_of_ble_eq_true rfl) (by decide) rfl (by decide) rfl (fun r F' h' hq1 => ?_)
      obtain ⟨rfl, rfl, hh⟩ := hq1
      obtain ⟨r7, rfl⟩ : ∃ z, z = h' := ⟨_, rfl⟩
      refine A_blk hM.1 2 (lv1 := [some (aR 18), some (aR (1000 + w)), some (aI r3)]) (s1 := [aI 41, aR 18]) (h1 := r7) rfl ?_
      refine A_callV hM rfl rfl (mem_GW 842 (by decide +kernel) rfl) mi_X6_expect (As := [aI 41]) (rest := []) (ct_X6_expect 41 r7 (OK_bind hh)) (by decide) ⟨Nat.zero_le _, Nat.zero_le _⟩ rfl rfl (Nat.le_of_ble_eq_true rfl) (by decide) rfl (by decide) rfl (fun r F' h' hq1 => ?_)
      obtain ⟨rfl, rfl, hh⟩ := hq1
      obtain ⟨r8, rfl⟩ : ∃ z, z = h' := ⟨_, rfl⟩
      refine A_blk hM.1 2 (lv1 := [some (aR 18), some (aR (1000 + w)), some (aI r3)]) (s1 := [aR 19]) (h1 := r8) rfl ?_
      refine A_callV hM rfl rfl (mem_GW 890 (by decide +kernel) rfl) mi_X10_endClause (As := []) (rest := []) (ct_X10_endClause 19 r8 (by decide) (OK_bind hh)) (by decide) ⟨Nat.zero_le _, Nat.zero_le _⟩ rfl rfl (Nat.le_of_ble_eq_true rfl) (by decide) rfl (by decide) rfl (fun r F' h' hq1 => ?_)
      obtain ⟨rfl, rfl, hh⟩ := hq1
      obtain ⟨r9, rfl⟩ : ∃ z, z = h' := ⟨_, rfl⟩
      exact A_retv hM.1 rfl rfl rfl (hq r9 hh)
    · replace hh := OK_f hh hc
      refine A_blk hM.1 2 (lv1 := [some (aR 18), some (aR (1000 + w)), none]) (s1 := [aI 4, aR 18]) (h1 := h) rfl ?_
      refine A_callV hM rfl rfl (mem_GW 818 (by decide +kernel) rfl) mi_X6_blame (As := [aI 4]) (rest := []) (ct_X6_blame 4 h (OK_bind hh)) (by decide) ⟨Nat.zero_le _, Nat.zero_le _⟩ rfl rfl (Nat.le_of_ble_eq_true rfl) (by decide) rfl (by decide) rfl (fun r F' h' hq1 => ?_)
      obtain ⟨rfl, rfl, hh⟩ := hq1
      obtain ⟨r10, rfl⟩ : ∃ z, z = h' := ⟨_, rfl⟩
      exact A_retv hM.1 rfl rfl rfl (hq r10 hh)
  · replace hh := OK_f hh hc
    refine A_blk hM.1 2 (lv1 := [some (aR 18), some (aR (1000 + w)), none]) (s1 := [aI 1, aR 18]) (h1 := h) rfl ?_
    refine A_callV hM rfl rfl (mem_GW 818 (by decide +kernel) rfl) mi_X6_blame (As := [aI 1]) (rest := []) (ct_X6_blame 1 h (OK_bind hh)) (by decide) ⟨Nat.zero_le _, Nat.zero_le _⟩ rfl rfl (Nat.le_of_ble_eq_true rfl) (by decide) rfl (by decide) rfl (fun r F' h' hq1 => ?_)
    obtain ⟨rfl, rfl, hh⟩ := hq1
    obtain ⟨r11, rfl⟩ : ∃ z, z = h' := ⟨_, rfl⟩
    exact A_retv hM.1 rfl rfl rfl (hq r11 hh)

set_option maxRecDepth 20000 in
set_option maxHeartbeats 4000000 in
theorem ct_X6_readClause {G : Gx} (w : Nat) (h : Hp)  (hw : w < 10) {P : Hp → Prop} (hh : OK (X6_readClause w h) P) : CT G yX6_readClause M_X6_readClause 130 0 0 FN h [aR 18, aR (1000 + w)] (fun r F' h' => F' = FN ∧ r = none ∧ P h') :=
  CT.of (by decide +kernel) rfl (Nat.le_of_ble_eq_true rfl) k_X6_readClause fun k0 _ _ hM => c_X6_readClause hM w h hw (fun z hz => ⟨rfl, rfl, hz⟩) hh

theorem mi_X10_takeOver : MIv yX10_takeOver M_X10_takeOver 1 := ⟨⟨(mem_GW 897 (by decide +kernel) rfl), (mem_GW 127 (by decide +kernel) rfl), by decide +kernel, by decide +kernel, by decide +kernel, by decide⟩, (mem_GW 895 (by decide +kernel) rfl), (mem_GW 896 (by decide +kernel) rfl)⟩
set_option maxRecDepth 20000 in
set_option maxHeartbeats 4000000 in
theorem c_X10_takeOver {k0 : K0} {G : Gx} {Qp : Option AV → Fx → Hp → Prop} (hM : MB (KM k0 0 0 Qp) G M_X10_takeOver 3) (t : Nat) (h : Hp)  (ht : t ∈ txL) {P : Hp → Prop} (hq : ∀ z : Hp, P z → Qp none FN z) (hh : OK (X10_takeOver t h) P) : ATk (KM k0 0 0 Qp) FN 0 0 M_X10_takeOver 0 [some (aR t), some (aR 19)] [] h := by
  unfold X10_takeOver at hh
  refine A_blk hM.1 3 (lv1 := [some (aR t), some (aR 19)]) (s1 := [aI (h 19 0), aR t]) (h1 := h) rfl ?_
  refine A_pi hM.1 rfl rfl rfl (tx_k0 ht) (tx_l0 ht) rfl rfl ?_
  refine A_blk hM.1 3 (lv1 := [some (aR t), some (aR 19)]) (s1 := [aI ((setH h t 0 (h 19 0)) 19 1), aR t]) (h1 := setH h t 0 (h 19 0)) rfl ?_
  refine A_pi hM.1 rfl rfl rfl (tx_k0 ht) (tx_l0 ht) rfl rfl ?_
  refine A_blk hM.1 4 (lv1 := [some (aR t), some (aR 19)]) (s1 := [aR t, aI 0, aR 20]) (h1 := setH (setH h t 0 (h 19 0)) t 1 ((setH h t 0 (h 19 0)) 19 1)) rfl ?_
  refine A_gr hM.1 rfl rfl rfl (tx_k0 ht) (tx_l0 ht) (Nat.lt_trans (tx_l1 ht) NF_lt) (tx_r2 ht) rfl ?_
  refine A_blk hM.1 2 (lv1 := [some (aR t), some (aR 19)]) (s1 := [aI 12, aI 0, aR (t + 1), aI 0, aR 20]) (h1 := setH (setH h t 0 (h 19 0)) t 1 ((setH h t 0 (h 19 0)) 19 1)) rfl ?_
  refine A_copy hM.1 rfl rfl (mem_GW 898 (by decide +kernel) rfl) rfl (tx_k1 ht) rfl (tx_n1 ht) (by decide) (tx_l1 ht) rfl (Nat.le_of_ble_eq_true rfl) (Nat.le_of_ble_eq_true rfl) ⟨Nat.le_trans (by decide) hM.2.2.1, Nat.le_trans (by decide) hM.2.2.2⟩ ?_
  refine A_blk hM.1 4 (lv1 := [some (aR t), some (aR 19)]) (s1 := [aR t, aI 0, aR 21]) (h1 := cpyH (setH (setH h t 0 (h 19 0)) t 1 ((setH h t 0 (h 19 0)) 19 1)) 20 (t + 1) 12) rfl ?_
  refine A_gr hM.1 rfl rfl rfl (tx_k0 ht) (tx_l0 ht) (Nat.lt_trans (tx_l2 ht) NF_lt) (tx_r3 ht) rfl ?_
  refine A_blk hM.1 2 (lv1 := [some (aR t), some (aR 19)]) (s1 := [aI 12, aI 0, aR (t + 2), aI 0, aR 21]) (h1 := cpyH (setH (setH h t 0 (h 19 0)) t 1 ((setH h t 0 (h 19 0)) 19 1)) 20 (t + 1) 12) rfl ?_
  refine A_copy hM.1 rfl rfl (mem_GW 898 (by decide +kernel) rfl) rfl (tx_k2 ht) rfl (tx_n2 ht) (by decide) (tx_l2 ht) rfl (Nat.le_of_ble_eq_true rfl) (Nat.le_of_ble_eq_true rfl) ⟨Nat.le_trans (by decide) hM.2.2.1, Nat.le_trans (by decide) hM.2.2.2⟩ ?_
  refine A_blk hM.1 4 (lv1 := [some (aR t), some (aR 19)]) (s1 := [aR t, aI 0, aR 22]) (h1 := cpyH (cpyH (setH (setH h t 0 (h 19 0)) t 1 ((setH h t 0 (h 19 0)) 19 1)) 20 (t + 1) 12) 21 (t + 2) 12) rfl ?_
  refine A_gr hM.1 rfl rfl rfl (tx_k0 ht) (tx_l0 ht) (Nat.lt_trans (tx_l3 ht) NF_lt) (tx_r4 ht) rfl ?_
  refine A_blk hM.1 2 (lv1 := [some (aR t), some (aR 19)]) (s1 := [aI 12, aI 0, aR (t + 3), aI 0, aR 22]) (h1 := cpyH (cpyH (setH (setH h t 0 (h 19 0)) t 1 ((setH h t 0 (h 19 0)) 19 1)) 20 (t + 1) 12) 21 (t + 2) 12) rfl ?_
  refine A_copy hM.1 rfl rfl (mem_GW 898 (by decide +kernel) rfl) rfl (tx_k3 ht) rfl (tx_n3 ht) (by decide) (tx_l3 ht) rfl (Nat.le_of_ble_eq_true rfl) (Nat.le_of_ble_eq_true rfl) ⟨Nat.le_trans (by decide) hM.2.2.1, Nat.le_trans (by decide) hM.2.2.2⟩ ?_
  refine A_blk hM.1 4 (lv1 := [some (aR t), some (aR 19)]) (s1 := [aR t, aI 0, aR 23]) (h1 := cpyH (cpyH (cpyH (setH (setH h t 0 (h 19 0)) t 1 ((setH h t 0 (h 19 0)) 19 1)) 20 (t + 1) 12) 21 (t + 2) 12) 22 (t + 3) 12) rfl ?_
  refine A_gr hM.1 rfl rfl rfl (tx_k0 ht) (tx_l0 ht) (Nat.lt_trans (tx_l4 ht) NF_lt) (tx_r5 ht) rfl ?_
  refine A_blk hM.1 2 (lv1 := [some (aR t), some (aR 19)]) (s1 := [aI 160, aI 0, aR (t + 4), aI 0, aR 23]) (h1 := cpyH (cpyH (cpyH (setH (setH h t 0 (h 19 0)) t 1 ((setH h t 0 (h 19 0)) 19 1)) 20 (t + 1) 12) 21 (t + 2) 12) 22 (t + 3) 12) rfl ?_
  refine A_copy hM.1 rfl rfl (mem_GW 898 (by decide +kernel) rfl) rfl (tx_k4 ht) rfl (tx_n4 ht) (by decide) (tx_l4 ht) rfl (Nat.le_of_ble_eq_true rfl) (Nat.le_of_ble_eq_true rfl) ⟨Nat.le_trans (by decide) hM.2.2.1, Nat.le_trans (by decide) hM.2.2.2⟩ ?_
  refine A_blk hM.1 4 (lv1 := [some (aR t), some (aR 19)]) (s1 := [aR t, aI 0, aR 24]) (h1 := cpyH (cpyH (cpyH (cpyH (setH (setH h t 0 (h 19 0)) t 1 ((setH h t 0 (h 19 0)) 19 1)) 20 (t + 1) 12) 21 (t + 2) 12) 22 (t + 3) 12) 23 (t + 4) 160) rfl ?_
  refine A_gr hM.1 rfl rfl rfl (tx_k0 ht) (tx_l0 ht) (Nat.lt_trans (tx_l5 ht) NF_lt) (tx_r6 ht) rfl ?_
  refine A_blk hM.1 2 (lv1 := [some (aR t), some (aR 19)]) (s1 := [aI 160, aI 0, aR (t + 5), aI 0, aR 24]) (h1 := cpyH (cpyH (cpyH (cpyH (setH (setH h t 0 (h 19 0)) t 1 ((setH h t 0 (h 19 0)) 19 1)) 20 (t + 1) 12) 21 (t + 2) 12) 22 (t + 3) 12) 23 (t + 4) 160) rfl ?_
  refine A_copy hM.1 rfl rfl (mem_GW 898 (by decide +kernel) rfl) rfl (tx_k5 ht) rfl (tx_n5 ht) (by decide) (tx_l5 ht) rfl (Nat.le_of_ble_eq_true rfl) (Nat.le_of_ble_eq_true rfl) ⟨Nat.le_trans (by decide) hM.2.2.1, Nat.le_trans (by decide) hM.2.2.2⟩ ?_
  exact A_retv hM.1 rfl rfl rfl (hq (cpyH (cpyH (cpyH (cpyH (cpyH (setH (setH h t 0 (h 19 0)) t 1 ((setH h t 0 (h 19 0)) 19 1)) 20 (t + 1) 12) 21 (t + 2) 12) 22 (t + 3) 12) 23 (t + 4) 160) 24 (t + 5) 160) hh)

set_option maxRecDepth 20000 in
set_option maxHeartbeats 4000000 in
theorem ct_X10_takeOver {G : Gx} (t : Nat) (h : Hp)  (ht : t ∈ txL) {P : Hp → Prop} (hh : OK (X10_takeOver t h) P) : CT G yX10_takeOver M_X10_takeOver 3 0 0 FN h [aR t, aR 19] (fun r F' h' => F' = FN ∧ r = none ∧ P h') :=
  CT.of (by decide +kernel) rfl (Nat.le_of_ble_eq_true rfl) k_X10_takeOver fun k0 _ _ hM => c_X10_takeOver hM t h ht (fun z hz => ⟨rfl, rfl, hz⟩) hh

theorem mi_X6_read : MIv yX6_read M_X6_read 3 := ⟨⟨(mem_GW 714 (by decide +kernel) rfl), (mem_GW 126 (by decide +kernel) rfl), by decide +kernel, by decide +kernel, by decide +kernel, by decide⟩, (mem_GW 712 (by decide +kernel) rfl), (mem_GW 713 (by decide +kernel) rfl)⟩
set_option maxRecDepth 20000 in
set_option maxHeartbeats 4000000 in
theorem c_X6_read_l17 {k0 : K0} {G : Gx} {Qp : Option AV → Fx → Hp → Prop} (hM : MB (KM k0 0 0 Qp) G M_X6_read 131) (w : Nat) (t : Nat) (x : Int × Hp)  (hw : w < 10) (ht : t ∈ txL) {P : ((Int × Hp) ⊕ (Hp)) → Prop} (hin : ∀ y : Int × Hp, P (.inl y) → ATk (KM k0 0 0 Qp) FN 0 0 M_X6_read 17 [some (aR 18), none, some (aR (1000 + w)), some (aR t), some (aI y.1)] [] y.2) (hout0 : ∀ y : Hp, P (.inr y) → ATk (KM k0 0 0 Qp) FN 0 0 M_X6_read 36 [some (aR 18), none, none, some (aR t), none] [] y) (hh : OK (X6_read_l17 w t x) P) : ATk (KM k0 0 0 Qp) FN 0 0 M_X6_read 17 [some (aR 18), none, some (aR (1000 + w)), some (aR t), some (aI x.1)] [] x.2 := by
  unfold X6_read_l17 at hh
  refine A_blk hM.1 2 (lv1 := [some (aR 18), none, some (aR (1000 + w)), some (aR t), some (aI x.1)]) (s1 := [aI 12, aI x.1]) (h1 := x.2) rfl ?_
  refine A_icmp hM.1 rfl rfl (fun hc => ?_) (fun hc => ?_)
  · replace hh := OK_t hh hc
    refine A_mask [true, true, false, true, false] (lv1 := [some (aR 18), none, none, some (aR t), none]) rfl ?_
    exact hout0 x.2 hh
  · replace hh := OK_f hh hc
    refine A_blk hM.1 2 (lv1 := [some (aR 18), none, some (aR (1000 + w)), some (aR t), some (aI x.1)]) (s1 := [aI (x.2 18 4)]) (h1 := x.2) rfl ?_
    refine A_ifc hM.1 rfl rfl (fun hc => ?_) (fun hc => ?_)
    · replace hh := OK_t hh hc
      refine A_mask [true, true, false, true, false] (lv1 := [some (aR 18), none, none, some (aR t), none]) rfl ?_
      exact hout0 x.2 hh
    · replace hh := OK_f hh hc
      refine A_blk hM.1 4 (lv1 := [some (aR 18), none, some (aR (1000 + w)), some (aR t), some (aI x.1)]) (s1 := [aI (x.2 18 2), aI (x.2 18 3)]) (h1 := x.2) rfl ?_
      refine A_icmp hM.1 rfl rfl (fun hc => ?_) (fun hc => ?_)
      · replace hh := OK_t hh hc
        refine A_mask [true, true, false, true, false] (lv1 := [some (aR 18), none, none, some (aR t), none]) rfl ?_
        exact hout0 x.2 hh
      · replace hh := OK_f hh hc
        refine A_blk hM.1 2 (lv1 := [some (aR 18), none, some (aR (1000 + w)), some (aR t), some (aI x.1)]) (s1 := [aI 59, aR 18]) (h1 := x.2) rfl ?_
        refine A_callV hM rfl rfl (mem_GW 842 (by decide +kernel) rfl) mi_X6_expect (As := [aI 59]) (rest := []) (ct_X6_expect 59 x.2 (OK_bind hh)) (by decide) ⟨Nat.zero_le _, Nat.zero_le _⟩ rfl rfl (Nat.le_of_ble_eq_true rfl) (by decide) rfl (by decide) rfl (fun r F' h' hq1 => ?_)
        obtain ⟨rfl, rfl, hh⟩ := hq1
        obtain ⟨r3, rfl⟩ : ∃ z, z = h' := ⟨_, rfl⟩
        refine A_blk hM.1 2 (lv1 := [some (aR 18), none, some (aR (1000 + w)), some (aR t), some (aI x.1)]) (s1 := [aR (1000 + w), aR 18]) (h1 := r3) rfl ?_
        refine A_callV hM rfl rfl (mem_GW 719 (by decide +kernel) rfl) mi_X6_readClause (As := [aR (1000 + w)]) (rest := []) (ct_X6_readClause w r3 hw (OK_bind hh)) (by decide) ⟨Nat.zero_le _, Nat.zero_le _⟩ rfl rfl (Nat.le_of_ble_eq_true rfl) (by decide) rfl (by decide) rfl (fun r F' h' hq1 => ?_)
        obtain ⟨rfl, rfl, hh⟩ := hq1
        obtain ⟨r4, rfl⟩ : ∃ z, z = h' := ⟨_, rfl⟩
        refine A_blk hM.1 1 (lv1 := [some (aR 18), none, some (aR (1000 + w)), some (aR t), some (aI (x.1 + 1))]) (s1 := []) (h1 := r4) rfl ?_
        refine A_go hM.1 rfl rfl ?_
        exact hin (x.1 + 1, r4) hh

set_option maxRecDepth 20000 in
set_option maxHeartbeats 4000000 in
theorem c_X6_read {k0 : K0} {G : Gx} {Qp : Option AV → Fx → Hp → Prop} (hM : MB (KM k0 0 0 Qp) G M_X6_read 131) (w : Nat) (t : Nat) (v1 : Int) (h : Hp)  (hw : w < 10) (ht : t ∈ txL) {P : (Int × Hp) → Prop} (hq : ∀ z : Int × Hp, P z → Qp (some (aI z.1)) FN z.2) (hh : OK (X6_read w t v1 h) P) : ATk (KM k0 0 0 Qp) FN 0 0 M_X6_read 0 [some (aR 18), some (aI v1), some (aR (1000 + w)), some (aR t), none] [] h := by
  unfold X6_read at hh
  refine A_blk hM.1 11 (lv1 := [some (aR 18), some (aI v1), some (aR (1000 + w)), some (aR t), none]) (s1 := [aR 19]) (h1 := setH (setH (setH h 18 2 v1) 18 3 0) 18 4 0) rfl ?_
  refine A_callV hM rfl rfl (mem_GW 715 (by decide +kernel) rfl) mi_X10_clear (As := []) (rest := []) (ct_X10_clear 19 (setH (setH (setH h 18 2 v1) 18 3 0) 18 4 0) (by decide) (OK_bind hh)) (by decide) ⟨Nat.zero_le _, Nat.zero_le _⟩ rfl rfl (Nat.le_of_ble_eq_true rfl) (by decide) rfl (by decide) rfl (fun r F' h' hq1 => ?_)
  obtain ⟨rfl, rfl, hh⟩ := hq1
  obtain ⟨r1, rfl⟩ : ∃ z, z = h' := ⟨_, rfl⟩
  refine A_blk hM.1 2 (lv1 := [some (aR 18), some (aI v1), some (aR (1000 + w)), some (aR t), none]) (s1 := [aR (1000 + w), aR 18]) (h1 := r1) rfl ?_
  refine A_callV hM rfl rfl (mem_GW 719 (by decide +kernel) rfl) mi_X6_readClause (As := [aR (1000 + w)]) (rest := []) (ct_X6_readClause w r1 hw (OK_bind hh)) (by decide) ⟨Nat.zero_le _, Nat.zero_le _⟩ rfl rfl (Nat.le_of_ble_eq_true rfl) (by decide) rfl (by decide) rfl (fun r F' h' hq1 => ?_)
  obtain ⟨rfl, rfl, hh⟩ := hq1
  obtain ⟨r2, rfl⟩ : ∃ z, z = h' := ⟨_, rfl⟩
  refine A_blk hM.1 2 (lv1 := [some (aR 18), some (aI v1), some (aR (1000 + w)), some (aR t), some (aI 0)]) (s1 := []) (h1 := r2) rfl ?_
  refine A_mask [true, false, true, true, true] (lv1 := [some (aR 18), none, some (aR (1000 + w)), some (aR t), some (aI 0)]) rfl ?_
  refine iter_ok (s := (0, r2)) (Gp := fun z => ATk (KM k0 0 0 Qp) FN 0 0 M_X6_read 17 [some (aR 18), none, some (aR (1000 + w)), some (aR t), some (aI z.1)] [] z.2) (E := fun z => ATk (KM k0 0 0 Qp) FN 0 0 M_X6_read 36 [some (aR 18), none, none, some (aR t), none] [] z) (fun z P1 g1 g2 g3 => c_X6_read_l17 hM w t z hw ht g2 g3 g1) (OK_bind hh) (fun x5 hh => ?_)
  refine A_blk hM.1 2 (lv1 := [some (aR 18), none, none, some (aR t), none]) (s1 := [aI (x5 18 4)]) (h1 := x5) rfl ?_
  refine A_ifc hM.1 rfl rfl (fun hc => ?_) (fun hc => ?_)
  · replace hh := OK_t hh hc
    refine A_blk hM.1 3 (lv1 := [some (aR 18), none, none, some (aR t), none]) (s1 := [aR 19, aR t]) (h1 := x5) rfl ?_
    refine A_callV hM rfl rfl (mem_GW 894 (by decide +kernel) rfl) mi_X10_takeOver (As := [aR 19]) (rest := []) (ct_X10_takeOver t x5 ht (OK_bind hh)) (by decide) ⟨Nat.zero_le _, Nat.zero_le _⟩ rfl rfl (Nat.le_of_ble_eq_true rfl) (tx_l0 ht) (tx_k0 ht) (by decide) rfl (fun r F' h' hq1 => ?_)
    obtain ⟨rfl, rfl, hh⟩ := hq1
    obtain ⟨r6, rfl⟩ : ∃ z, z = h' := ⟨_, rfl⟩
    refine A_blk hM.1 1 (lv1 := [some (aR 18), none, none, some (aR t), none]) (s1 := [aR t]) (h1 := r6) rfl ?_
    refine A_callV hM rfl rfl (mem_GW 822 (by decide +kernel) rfl) mi_X10_clauses (As := []) (rest := []) (ct_X10_clauses t r6 ht (OK_bind hh)) (by decide) ⟨Nat.zero_le _, Nat.zero_le _⟩ rfl rfl (Nat.le_of_ble_eq_true rfl) (tx_l0 ht) (tx_k0 ht) (by decide) rfl (fun r F' h' hq1 => ?_)
    obtain ⟨rfl, r7, rfl, e9, hh⟩ := hq1
    subst h'
    exact A_reti hM.1 rfl rfl rfl (hq (r7, r6) hh)
  · replace hh := OK_f hh hc
    refine A_blk hM.1 2 (lv1 := [some (aR 18), none, none, some (aR t), none]) (s1 := [aI (x5 18 4)]) (h1 := x5) rfl ?_
    exact A_reti hM.1 rfl rfl rfl (hq (x5 18 4, x5) hh)

set_option maxRecDepth 20000 in
set_option maxHeartbeats 4000000 in
theorem ct_X6_read {G : Gx} (w : Nat) (t : Nat) (v1 : Int) (h : Hp)  (hw : w < 10) (ht : t ∈ txL) {P : (Int × Hp) → Prop} (hh : OK (X6_read w t v1 h) P) : CT G yX6_read M_X6_read 131 0 0 FN h [aR 18, aI v1, aR (1000 + w), aR t] (fun r F' h' => F' = FN ∧ ∃ z, r = some (aI z.1) ∧ h' = z.2 ∧ P z) :=
  CT.of (by decide +kernel) rfl (Nat.le_of_ble_eq_true rfl) k_X6_read fun k0 _ _ hM => c_X6_read hM w t v1 h hw ht (fun z hz => ⟨rfl, z, rfl, rfl, hz⟩) hh

theorem mi_X11_readText : MIv yX11_readText M_X11_readText 3 := ⟨⟨(mem_GW 710 (by decide +kernel) rfl), (mem_GW 123 (by decide +kernel) rfl), by decide +kernel, by decide +kernel, by decide +kernel, by decide⟩, (mem_GW 709 (by decide +kernel) rfl), (mem_GW 3 (by decide +kernel) rfl)⟩
set_option maxRecDepth 20000 in
set_option maxHeartbeats 4000000 in
theorem c_X11_readText {k0 : K0} {G : Gx} {Qp : Option AV → Fx → Hp → Prop} (hM : MB (KM k0 0 0 Qp) G M_X11_readText 132) (w : Nat) (o : Option Nat) (v1 : Int) (h : Hp)  (hw : w < 10) (ho : okO o = true) {P : (Int × Hp) → Prop} (hq : ∀ z : Int × Hp, P z → Qp (some (aI z.1)) FN z.2) (hh : OK (X11_readText w o v1 h) P) : ATk (KM k0 0 0 Qp) FN 0 0 M_X11_readText 0 [some (aR 0), some (aI v1), some (aR (1000 + w)), some (aO o), none] [] h := by
  unfold X11_readText at hh
  refine A_blk hM.1 1 (lv1 := [some (aR 0), some (aI v1), some (aR (1000 + w)), some (aO o), none]) (s1 := [aO o]) (h1 := h) rfl ?_
  cases o with
  | none =>
    refine A_ifnullT hM.1 rfl rfl ?_
    refine A_blk hM.1 1 (lv1 := [some (aR 0), some (aI v1), some (aR (1000 + w)), some (aN), none]) (s1 := [aI (-1)]) (h1 := h) rfl ?_
    exact A_reti hM.1 rfl rfl rfl (hq ((-1), h) hh)
  | some t =>
    have ht : t ∈ txL := okO_in ho
    refine A_ifnullF hM.1 rfl rfl ?_
    refine A_blk hM.1 3 (lv1 := [some (aR 0), some (aI v1), some (aR (1000 + w)), some (aR t), none]) (s1 := [aI 160, aI 1, aI v1]) (h1 := h) rfl ?_
    refine A_callS hM rfl rfl (mem_GW 576 (by decide +kernel) rfl) mi_X11_within ms_X11_within (As := [aI v1, aI 1, aI 160]) (rest := []) (ct_X11_within v1 1 160 h (OK_bind hh)) (by decide) ⟨Nat.zero_le _, Nat.zero_le _⟩ rfl rfl (Nat.le_of_ble_eq_true rfl) (fun r F' h' hq1 => ?_)
    obtain ⟨rfl, r1, rfl, e9, hh⟩ := hq1
    subst h'
    refine A_ifc hM.1 rfl rfl (fun hc => ?_) (fun hc => ?_)
    · replace hh := OK_t hh hc
      refine A_blk hM.1 1 (lv1 := [some (aR 0), some (aI v1), some (aR (1000 + w)), some (aR t), none]) (s1 := [aI (-1)]) (h1 := h) rfl ?_
      exact A_reti hM.1 rfl rfl rfl (hq ((-1), h) hh)
    · replace hh := OK_f hh hc
      refine A_blk hM.1 4 (lv1 := [some (aR 0), some (aI v1), some (aR (1000 + w)), some (aR t), none]) (s1 := [aI 1, aI v1, aR 1]) (h1 := h) rfl ?_
      refine A_callV hM rfl rfl (mem_GW 644 (by decide +kernel) rfl) mi_X9_holds (As := [aI v1, aI 1]) (rest := []) (ct_X9_holds v1 1 h (OK_bind hh)) (by decide) ⟨Nat.zero_le _, Nat.zero_le _⟩ rfl rfl (Nat.le_of_ble_eq_true rfl) (by decide) rfl (by decide) rfl (fun r F' h' hq1 => ?_)
      obtain ⟨rfl, r2, rfl, e9, hh⟩ := hq1
      subst h'
      refine A_ifc hM.1 rfl rfl (fun hc => ?_) (fun hc => ?_)
      · replace hh := OK_t hh hc
        refine A_blk hM.1 5 (lv1 := [some (aR 0), some (aI v1), some (aR (1000 + w)), some (aR t), none]) (s1 := [aR t, aR (1000 + w), aI v1, aR 18]) (h1 := h) rfl ?_
        refine A_callV hM rfl rfl (mem_GW 711 (by decide +kernel) rfl) mi_X6_read (As := [aI v1, aR (1000 + w), aR t]) (rest := []) (ct_X6_read w t v1 h hw ht (OK_bind hh)) (by decide) ⟨Nat.zero_le _, Nat.zero_le _⟩ rfl rfl (Nat.le_of_ble_eq_true rfl) (by decide) rfl (by decide) rfl (fun r F' h' hq1 => ?_)
        obtain ⟨rfl, r3, rfl, e9, hh⟩ := hq1
        subst h'
        refine A_blk hM.1 3 (lv1 := [some (aR 0), some (aI v1), some (aR (1000 + w)), some (aR t), some (aI r3.1)]) (s1 := [aR 1]) (h1 := r3.2) rfl ?_
        refine A_callV hM rfl rfl (mem_GW 657 (by decide +kernel) rfl) mi_X9_clear (As := []) (rest := []) (ct_X9_clear r3.2 (OK_bind hh)) (by decide) ⟨Nat.zero_le _, Nat.zero_le _⟩ rfl rfl (Nat.le_of_ble_eq_true rfl) (by decide) rfl (by decide) rfl (fun r F' h' hq1 => ?_)
        obtain ⟨rfl, rfl, hh⟩ := hq1
        obtain ⟨r4, rfl⟩ : ∃ z, z = h' := ⟨_, rfl⟩
        refine A_blk hM.1 1 (lv1 := [some (aR 0), some (aI v1), some (aR (1000 + w)), some (aR t), some (aI r3.1)]) (s1 := [aI r3.1]) (h1 := r4) rfl ?_
        exact A_reti hM.1 rfl rfl rfl (hq (r3.1, r4) hh)
      · replace hh := OK_f hh hc
        refine A_blk hM.1 1 (lv1 := [some (aR 0), some (aI v1), some (aR (1000 + w)), some (aR t), none]) (s1 := [aI (-1)]) (h1 := h) rfl ?_
        exact A_reti hM.1 rfl rfl rfl (hq ((-1), h) hh)

set_option maxRecDepth 20000 in
set_option maxHeartbeats 4000000 in
theorem ct_X11_readText {G : Gx} (w : Nat) (o : Option Nat) (v1 : Int) (h : Hp)  (hw : w < 10) (ho : okO o = true) {P : (Int × Hp) → Prop} (hh : OK (X11_readText w o v1 h) P) : CT G yX11_readText M_X11_readText 132 0 0 FN h [aR 0, aI v1, aR (1000 + w), aO o] (fun r F' h' => F' = FN ∧ ∃ z, r = some (aI z.1) ∧ h' = z.2 ∧ P z) :=
  CT.of (by decide +kernel) rfl (Nat.le_of_ble_eq_true rfl) k_X11_readText fun k0 _ _ hM => c_X11_readText hM w o v1 h hw ho (fun z hz => ⟨rfl, z, rfl, rfl, hz⟩) hh

theorem mi_X11_way : MIv yX11_way M_X11_way 2 := ⟨⟨(mem_GW 701 (by decide +kernel) rfl), (mem_GW 123 (by decide +kernel) rfl), by decide +kernel, by decide +kernel, by decide +kernel, by decide⟩, (mem_GW 699 (by decide +kernel) rfl), (mem_GW 700 (by decide +kernel) rfl)⟩
set_option maxRecDepth 20000 in
set_option maxHeartbeats 4000000 in
theorem c_X11_way {k0 : K0} {G : Gx} {Qp : Option AV → Fx → Hp → Prop} (hM : MB (KM k0 0 0 Qp) G M_X11_way 133) (v1 : Int) (v2 : Int) (h : Hp)   {P : (Int × Hp) → Prop} (hq : ∀ z : Int × Hp, P z → Qp (some (aI z.1)) FN z.2) (hh : OK (X11_way v1 v2 h) P) : ATk (KM k0 0 0 Qp) FN 0 0 M_X11_way 0 [some (aR 0), some (aI v1), some (aI v2)] [] h := by
  unfold X11_way at hh
  refine A_blk hM.1 2 (lv1 := [some (aR 0), some (aI v1), some (aI v2)]) (s1 := [aI v2, aR 0]) (h1 := h) rfl ?_
  refine A_ldcs hM.1 rfl rfl (j := 0) (by decide) rfl rfl ?_
  refine A_blk hM.1 2 (lv1 := [some (aR 0), some (aI v1), some (aI v2)]) (s1 := [aI v1, aR 0, aR 1000, aI v2, aR 0]) (h1 := h) rfl ?_
  refine A_callV hM rfl rfl (mem_GW 703 (by decide +kernel) rfl) mi_X11_wayOf (As := [aI v1]) (rest := [aR 1000, aI v2, aR 0]) (ct_X11_wayOf v1 h (OK_bind hh)) (by decide) ⟨Nat.zero_le _, Nat.zero_le _⟩ rfl rfl (Nat.le_of_ble_eq_true rfl) (by decide) rfl (by decide) rfl (fun r F' h' hq1 => ?_)
  obtain ⟨rfl, r1, rfl, e9, hh⟩ := hq1
  subst h'
  obtain ⟨ho2, hh⟩ := OK_g hh
  refine A_callV hM rfl rfl (mem_GW 707 (by decide +kernel) rfl) mi_X11_readText (As := [aI v2, aR 1000, aO r1]) (rest := []) (ct_X11_readText 0 r1 v2 h (by decide) ho2 (OK_bind hh)) (by decide) ⟨Nat.zero_le _, Nat.zero_le _⟩ rfl rfl (Nat.le_of_ble_eq_true rfl) (by decide) rfl (by decide) rfl (fun r F' h' hq1 => ?_)
  obtain ⟨rfl, r3, rfl, e9, hh⟩ := hq1
  subst h'
  exact A_reti hM.1 rfl rfl rfl (hq (r3.1, r3.2) hh)

set_option maxRecDepth 20000 in
set_option maxHeartbeats 4000000 in
theorem ct_X11_way {G : Gx} (v1 : Int) (v2 : Int) (h : Hp)   {P : (Int × Hp) → Prop} (hh : OK (X11_way v1 v2 h) P) : CT G yX11_way M_X11_way 133 0 0 FN h [aR 0, aI v1, aI v2] (fun r F' h' => F' = FN ∧ ∃ z, r = some (aI z.1) ∧ h' = z.2 ∧ P z) :=
  CT.of (by decide +kernel) rfl (Nat.le_of_ble_eq_true rfl) k_X11_way fun k0 _ _ hM => c_X11_way hM v1 v2 h (fun z hz => ⟨rfl, z, rfl, rfl, hz⟩) hh

theorem mi_X11_plan : MIv yX11_plan M_X11_plan 1 := ⟨⟨(mem_GW 905 (by decide +kernel) rfl), (mem_GW 123 (by decide +kernel) rfl), by decide +kernel, by decide +kernel, by decide +kernel, by decide⟩, (mem_GW 903 (by decide +kernel) rfl), (mem_GW 904 (by decide +kernel) rfl)⟩
set_option maxRecDepth 20000 in
set_option maxHeartbeats 4000000 in
theorem c_X11_plan {k0 : K0} {G : Gx} {Qp : Option AV → Fx → Hp → Prop} (hM : MB (KM k0 0 0 Qp) G M_X11_plan 133) (v1 : Int) (h : Hp)   {P : (Int × Hp) → Prop} (hq : ∀ z : Int × Hp, P z → Qp (some (aI z.1)) FN z.2) (hh : OK (X11_plan v1 h) P) : ATk (KM k0 0 0 Qp) FN 0 0 M_X11_plan 0 [some (aR 0), some (aI v1)] [] h := by
  unfold X11_plan at hh
  refine A_blk hM.1 2 (lv1 := [some (aR 0), some (aI v1)]) (s1 := [aR 66]) (h1 := h) rfl ?_
  refine A_callV hM rfl rfl (mem_GW 682 (by decide +kernel) rfl) mi_X5_forget (As := []) (rest := []) (ct_X5_forget h (OK_bind hh)) (by decide) ⟨Nat.zero_le _, Nat.zero_le _⟩ rfl rfl (Nat.le_of_ble_eq_true rfl) (by decide) rfl (by decide) rfl (fun r F' h' hq1 => ?_)
  obtain ⟨rfl, rfl, hh⟩ := hq1
  obtain ⟨r1, rfl⟩ : ∃ z, z = h' := ⟨_, rfl⟩
  refine A_blk hM.1 2 (lv1 := [some (aR 0), some (aI v1)]) (s1 := [aI v1, aR 0]) (h1 := r1) rfl ?_
  refine A_ldcs hM.1 rfl rfl (j := 7) (by decide) rfl rfl ?_
  refine A_blk hM.1 2 (lv1 := [some (aR 0), some (aI v1)]) (s1 := [aR 28, aR 1007, aI v1, aR 0]) (h1 := r1) rfl ?_
  refine A_callV hM rfl rfl (mem_GW 707 (by decide +kernel) rfl) mi_X11_readText (As := [aI v1, aR 1007, aR 28]) (rest := []) (ct_X11_readText 7 (some 28) v1 r1 (by decide) (okO_some (by decide)) (OK_bind hh)) (by decide) ⟨Nat.zero_le _, Nat.zero_le _⟩ rfl rfl (Nat.le_of_ble_eq_true rfl) (by decide) rfl (by decide) rfl (fun r F' h' hq1 => ?_)
  obtain ⟨rfl, r2, rfl, e9, hh⟩ := hq1
  subst h'
  exact A_reti hM.1 rfl rfl rfl (hq (r2.1, r2.2) hh)

set_option maxRecDepth 20000 in
set_option maxHeartbeats 4000000 in
theorem ct_X11_plan {G : Gx} (v1 : Int) (h : Hp)   {P : (Int × Hp) → Prop} (hh : OK (X11_plan v1 h) P) : CT G yX11_plan M_X11_plan 133 0 0 FN h [aR 0, aI v1] (fun r F' h' => F' = FN ∧ ∃ z, r = some (aI z.1) ∧ h' = z.2 ∧ P z) :=
  CT.of (by decide +kernel) rfl (Nat.le_of_ble_eq_true rfl) k_X11_plan fun k0 _ _ hM => c_X11_plan hM v1 h (fun z hz => ⟨rfl, z, rfl, rfl, hz⟩) hh

theorem mi_X11_habit : MIv yX11_habit M_X11_habit 1 := ⟨⟨(mem_GW 910 (by decide +kernel) rfl), (mem_GW 123 (by decide +kernel) rfl), by decide +kernel, by decide +kernel, by decide +kernel, by decide⟩, (mem_GW 908 (by decide +kernel) rfl), (mem_GW 909 (by decide +kernel) rfl)⟩
set_option maxRecDepth 20000 in
set_option maxHeartbeats 4000000 in
theorem c_X11_habit {k0 : K0} {G : Gx} {Qp : Option AV → Fx → Hp → Prop} (hM : MB (KM k0 0 0 Qp) G M_X11_habit 133) (v1 : Int) (h : Hp)   {P : (Int × Hp) → Prop} (hq : ∀ z : Int × Hp, P z → Qp (some (aI z.1)) FN z.2) (hh : OK (X11_habit v1 h) P) : ATk (KM k0 0 0 Qp) FN 0 0 M_X11_habit 0 [some (aR 0), some (aI v1)] [] h := by
  unfold X11_habit at hh
  refine A_blk hM.1 2 (lv1 := [some (aR 0), some (aI v1)]) (s1 := [aI v1, aR 0]) (h1 := h) rfl ?_
  refine A_ldcs hM.1 rfl rfl (j := 8) (by decide) rfl rfl ?_
  refine A_blk hM.1 2 (lv1 := [some (aR 0), some (aI v1)]) (s1 := [aR 36, aR 1008, aI v1, aR 0]) (h1 := h) rfl ?_
  refine A_callV hM rfl rfl (mem_GW 707 (by decide +kernel) rfl) mi_X11_readText (As := [aI v1, aR 1008, aR 36]) (rest := []) (ct_X11_readText 8 (some 36) v1 h (by decide) (okO_some (by decide)) (OK_bind hh)) (by decide) ⟨Nat.zero_le _, Nat.zero_le _⟩ rfl rfl (Nat.le_of_ble_eq_true rfl) (by decide) rfl (by decide) rfl (fun r F' h' hq1 => ?_)
  obtain ⟨rfl, r1, rfl, e9, hh⟩ := hq1
  subst h'
  exact A_reti hM.1 rfl rfl rfl (hq (r1.1, r1.2) hh)

set_option maxRecDepth 20000 in
set_option maxHeartbeats 4000000 in
theorem ct_X11_habit {G : Gx} (v1 : Int) (h : Hp)   {P : (Int × Hp) → Prop} (hh : OK (X11_habit v1 h) P) : CT G yX11_habit M_X11_habit 133 0 0 FN h [aR 0, aI v1] (fun r F' h' => F' = FN ∧ ∃ z, r = some (aI z.1) ∧ h' = z.2 ∧ P z) :=
  CT.of (by decide +kernel) rfl (Nat.le_of_ble_eq_true rfl) k_X11_habit fun k0 _ _ hM => c_X11_habit hM v1 h (fun z hz => ⟨rfl, z, rfl, rfl, hz⟩) hh

theorem mi_X11_table : MIv yX11_table M_X11_table 1 := ⟨⟨(mem_GW 915 (by decide +kernel) rfl), (mem_GW 123 (by decide +kernel) rfl), by decide +kernel, by decide +kernel, by decide +kernel, by decide⟩, (mem_GW 913 (by decide +kernel) rfl), (mem_GW 914 (by decide +kernel) rfl)⟩
set_option maxRecDepth 20000 in
set_option maxHeartbeats 4000000 in
theorem c_X11_table {k0 : K0} {G : Gx} {Qp : Option AV → Fx → Hp → Prop} (hM : MB (KM k0 0 0 Qp) G M_X11_table 133) (v1 : Int) (h : Hp)   {P : (Int × Hp) → Prop} (hq : ∀ z : Int × Hp, P z → Qp (some (aI z.1)) FN z.2) (hh : OK (X11_table v1 h) P) : ATk (KM k0 0 0 Qp) FN 0 0 M_X11_table 0 [some (aR 0), some (aI v1)] [] h := by
  unfold X11_table at hh
  refine A_blk hM.1 2 (lv1 := [some (aR 0), some (aI v1)]) (s1 := [aI v1, aR 0]) (h1 := h) rfl ?_
  refine A_ldcs hM.1 rfl rfl (j := 9) (by decide) rfl rfl ?_
  refine A_blk hM.1 2 (lv1 := [some (aR 0), some (aI v1)]) (s1 := [aR 44, aR 1009, aI v1, aR 0]) (h1 := h) rfl ?_
  refine A_callV hM rfl rfl (mem_GW 707 (by decide +kernel) rfl) mi_X11_readText (As := [aI v1, aR 1009, aR 44]) (rest := []) (ct_X11_readText 9 (some 44) v1 h (by decide) (okO_some (by decide)) (OK_bind hh)) (by decide) ⟨Nat.zero_le _, Nat.zero_le _⟩ rfl rfl (Nat.le_of_ble_eq_true rfl) (by decide) rfl (by decide) rfl (fun r F' h' hq1 => ?_)
  obtain ⟨rfl, r1, rfl, e9, hh⟩ := hq1
  subst h'
  exact A_reti hM.1 rfl rfl rfl (hq (r1.1, r1.2) hh)

set_option maxRecDepth 20000 in
set_option maxHeartbeats 4000000 in
theorem ct_X11_table {G : Gx} (v1 : Int) (h : Hp)   {P : (Int × Hp) → Prop} (hh : OK (X11_table v1 h) P) : CT G yX11_table M_X11_table 133 0 0 FN h [aR 0, aI v1] (fun r F' h' => F' = FN ∧ ∃ z, r = some (aI z.1) ∧ h' = z.2 ∧ P z) :=
  CT.of (by decide +kernel) rfl (Nat.le_of_ble_eq_true rfl) k_X11_table fun k0 _ _ hM => c_X11_table hM v1 h (fun z hz => ⟨rfl, z, rfl, rfl, hz⟩) hh

theorem mi_X7_wordsLeft : MIv yX7_wordsLeft M_X7_wordsLeft 1 := ⟨⟨(mem_GW 924 (by decide +kernel) rfl), (mem_GW 125 (by decide +kernel) rfl), by decide +kernel, by decide +kernel, by decide +kernel, by decide⟩, (mem_GW 922 (by decide +kernel) rfl), (mem_GW 923 (by decide +kernel) rfl)⟩
set_option maxRecDepth 20000 in
set_option maxHeartbeats 4000000 in
theorem c_X7_wordsLeft {k0 : K0} {G : Gx} {Qp : Option AV → Fx → Hp → Prop} (hM : MB (KM k0 0 0 Qp) G M_X7_wordsLeft 2) (v1 : Int) (h : Hp)   {P : Int → Prop} (hq : ∀ z : Int, P z → Qp (some (aI z)) FN h) (hh : OK (X7_wordsLeft v1 h) P) : ATk (KM k0 0 0 Qp) FN 0 0 M_X7_wordsLeft 0 [some (aR 3), some (aI v1)] [] h := by
  unfold X7_wordsLeft at hh
  refine A_blk hM.1 3 (lv1 := [some (aR 3), some (aI v1)]) (s1 := [aI v1, aR 8]) (h1 := h) rfl ?_
  refine A_callSN (host := "QuotedBooks") hM rfl rfl (mem_NW 641 (by decide +kernel) rfl) mi_X11_at ms_X11_at (As := [aR 8, aI v1]) (rest := []) (ct_X11_at 8 8 v1 h rfl rfl (OK_bind hh)) (by decide) ⟨Nat.zero_le _, Nat.zero_le _⟩ rfl rfl (Nat.le_of_ble_eq_true rfl) (fun r F' h' hq1 => ?_)
  obtain ⟨rfl, r1, rfl, e9, hh⟩ := hq1
  subst h'
  exact A_reti hM.1 rfl rfl rfl (hq r1 hh)

set_option maxRecDepth 20000 in
set_option maxHeartbeats 4000000 in
theorem ct_X7_wordsLeft {G : Gx} (v1 : Int) (h : Hp)   {P : Int → Prop} (hh : OK (X7_wordsLeft v1 h) P) : CT G yX7_wordsLeft M_X7_wordsLeft 2 0 0 FN h [aR 3, aI v1] (fun r F' h' => F' = FN ∧ ∃ z, r = some (aI z) ∧ h' = h ∧ P z) :=
  CT.of (by decide +kernel) rfl (Nat.le_of_ble_eq_true rfl) k_X7_wordsLeft fun k0 _ _ hM => c_X7_wordsLeft hM v1 h (fun z hz => ⟨rfl, z, rfl, rfl, hz⟩) hh

theorem mi_X10_let : MIv yX10_let M_X10_let 2 := ⟨⟨(mem_GW 928 (by decide +kernel) rfl), (mem_GW 127 (by decide +kernel) rfl), by decide +kernel, by decide +kernel, by decide +kernel, by decide⟩, (mem_GW 926 (by decide +kernel) rfl), (mem_GW 927 (by decide +kernel) rfl)⟩
set_option maxRecDepth 20000 in
set_option maxHeartbeats 4000000 in
theorem c_X10_let {k0 : K0} {G : Gx} {Qp : Option AV → Fx → Hp → Prop} (hM : MB (KM k0 0 0 Qp) G M_X10_let 2) (t : Nat) (v1 : Int) (v2 : Int) (h : Hp)  (ht : t ∈ txL) {P : Hp → Prop} (hq : ∀ z : Hp, P z → Qp none FN z) (hh : OK (X10_let t v1 v2 h) P) : ATk (KM k0 0 0 Qp) FN 0 0 M_X10_let 0 [some (aR t), some (aI v1), some (aI v2)] [] h := by
  unfold X10_let at hh
  refine A_blk hM.1 1 (lv1 := [some (aR t), some (aI v1), some (aI v2)]) (s1 := [aR t]) (h1 := h) rfl ?_
  refine A_gr hM.1 rfl rfl rfl (tx_k0 ht) (tx_l0 ht) (Nat.lt_trans (tx_l6 ht) NF_lt) (tx_r7 ht) rfl ?_
  refine A_blk hM.1 4 (lv1 := [some (aR t), some (aI v1), some (aI v2)]) (s1 := [aI v2, aI (v1 - 97), aR (t + 6)]) (h1 := h) rfl ?_
  refine A_callSN (host := "QuotedBooks") hM rfl rfl (mem_NW 855 (by decide +kernel) rfl) mi_X11_put ms_X11_put (As := [aR (t + 6), aI (v1 - 97), aI v2]) (rest := []) (ct_X11_put (t + 6) 26 (v1 - 97) v2 h (tx_k6 ht) (tx_n6 ht) (OK_bind hh)) (by decide) ⟨Nat.zero_le _, Nat.zero_le _⟩ rfl rfl (Nat.le_of_ble_eq_true rfl) (fun r F' h' hq1 => ?_)
  obtain ⟨rfl, rfl, hh⟩ := hq1
  obtain ⟨r1, rfl⟩ : ∃ z, z = h' := ⟨_, rfl⟩
  exact A_retv hM.1 rfl rfl rfl (hq r1 hh)

set_option maxRecDepth 20000 in
set_option maxHeartbeats 4000000 in
theorem ct_X10_let {G : Gx} (t : Nat) (v1 : Int) (v2 : Int) (h : Hp)  (ht : t ∈ txL) {P : Hp → Prop} (hh : OK (X10_let t v1 v2 h) P) : CT G yX10_let M_X10_let 2 0 0 FN h [aR t, aI v1, aI v2] (fun r F' h' => F' = FN ∧ r = none ∧ P h') :=
  CT.of (by decide +kernel) rfl (Nat.le_of_ble_eq_true rfl) k_X10_let fun k0 _ _ hM => c_X10_let hM t v1 v2 h ht (fun z hz => ⟨rfl, rfl, hz⟩) hh

theorem mi_X7_writerYear : MIv yX7_writerYear M_X7_writerYear 1 := ⟨⟨(mem_GW 932 (by decide +kernel) rfl), (mem_GW 125 (by decide +kernel) rfl), by decide +kernel, by decide +kernel, by decide +kernel, by decide⟩, (mem_GW 930 (by decide +kernel) rfl), (mem_GW 931 (by decide +kernel) rfl)⟩
set_option maxRecDepth 20000 in
set_option maxHeartbeats 4000000 in
theorem c_X7_writerYear {k0 : K0} {G : Gx} {Qp : Option AV → Fx → Hp → Prop} (hM : MB (KM k0 0 0 Qp) G M_X7_writerYear 2) (v1 : Int) (h : Hp)   {P : Int → Prop} (hq : ∀ z : Int, P z → Qp (some (aI z)) FN h) (hh : OK (X7_writerYear v1 h) P) : ATk (KM k0 0 0 Qp) FN 0 0 M_X7_writerYear 0 [some (aR 3), some (aI v1)] [] h := by
  unfold X7_writerYear at hh
  refine A_blk hM.1 3 (lv1 := [some (aR 3), some (aI v1)]) (s1 := [aI v1, aR 11]) (h1 := h) rfl ?_
  refine A_callSN (host := "QuotedBooks") hM rfl rfl (mem_NW 641 (by decide +kernel) rfl) mi_X11_at ms_X11_at (As := [aR 11, aI v1]) (rest := []) (ct_X11_at 11 8 v1 h rfl rfl (OK_bind hh)) (by decide) ⟨Nat.zero_le _, Nat.zero_le _⟩ rfl rfl (Nat.le_of_ble_eq_true rfl) (fun r F' h' hq1 => ?_)
  obtain ⟨rfl, r1, rfl, e9, hh⟩ := hq1
  subst h'
  exact A_reti hM.1 rfl rfl rfl (hq r1 hh)

set_option maxRecDepth 20000 in
set_option maxHeartbeats 4000000 in
theorem ct_X7_writerYear {G : Gx} (v1 : Int) (h : Hp)   {P : Int → Prop} (hh : OK (X7_writerYear v1 h) P) : CT G yX7_writerYear M_X7_writerYear 2 0 0 FN h [aR 3, aI v1] (fun r F' h' => F' = FN ∧ ∃ z, r = some (aI z) ∧ h' = h ∧ P z) :=
  CT.of (by decide +kernel) rfl (Nat.le_of_ble_eq_true rfl) k_X7_writerYear fun k0 _ _ hM => c_X7_writerYear hM v1 h (fun z hz => ⟨rfl, z, rfl, rfl, hz⟩) hh

theorem mi_X7_workWord : MIv yX7_workWord M_X7_workWord 2 := ⟨⟨(mem_GW 940 (by decide +kernel) rfl), (mem_GW 125 (by decide +kernel) rfl), by decide +kernel, by decide +kernel, by decide +kernel, by decide⟩, (mem_GW 938 (by decide +kernel) rfl), (mem_GW 939 (by decide +kernel) rfl)⟩
set_option maxRecDepth 20000 in
set_option maxHeartbeats 4000000 in
theorem c_X7_workWord {k0 : K0} {G : Gx} {Qp : Option AV → Fx → Hp → Prop} (hM : MB (KM k0 0 0 Qp) G M_X7_workWord 2) (v1 : Int) (v2 : Int) (h : Hp)   {P : Int → Prop} (hq : ∀ z : Int, P z → Qp (some (aI z)) FN h) (hh : OK (X7_workWord v1 v2 h) P) : ATk (KM k0 0 0 Qp) FN 0 0 M_X7_workWord 0 [some (aR 3), some (aI v1), some (aI v2)] [] h := by
  unfold X7_workWord at hh
  refine A_blk hM.1 7 (lv1 := [some (aR 3), some (aI v1), some (aI v2)]) (s1 := [aI ((v1 * 40) + v2), aR 9]) (h1 := h) rfl ?_
  refine A_callSN (host := "QuotedBooks") hM rfl rfl (mem_NW 641 (by decide +kernel) rfl) mi_X11_at ms_X11_at (As := [aR 9, aI ((v1 * 40) + v2)]) (rest := []) (ct_X11_at 9 320 ((v1 * 40) + v2) h rfl rfl (OK_bind hh)) (by decide) ⟨Nat.zero_le _, Nat.zero_le _⟩ rfl rfl (Nat.le_of_ble_eq_true rfl) (fun r F' h' hq1 => ?_)
  obtain ⟨rfl, r1, rfl, e9, hh⟩ := hq1
  subst h'
  exact A_reti hM.1 rfl rfl rfl (hq r1 hh)

set_option maxRecDepth 20000 in
set_option maxHeartbeats 4000000 in
theorem ct_X7_workWord {G : Gx} (v1 : Int) (v2 : Int) (h : Hp)   {P : Int → Prop} (hh : OK (X7_workWord v1 v2 h) P) : CT G yX7_workWord M_X7_workWord 2 0 0 FN h [aR 3, aI v1, aI v2] (fun r F' h' => F' = FN ∧ ∃ z, r = some (aI z) ∧ h' = h ∧ P z) :=
  CT.of (by decide +kernel) rfl (Nat.le_of_ble_eq_true rfl) k_X7_workWord fun k0 _ _ hM => c_X7_workWord hM v1 v2 h (fun z hz => ⟨rfl, z, rfl, rfl, hz⟩) hh

theorem mi_X7_workBook : MIv yX7_workBook M_X7_workBook 2 := ⟨⟨(mem_GW 944 (by decide +kernel) rfl), (mem_GW 125 (by decide +kernel) rfl), by decide +kernel, by decide +kernel, by decide +kernel, by decide⟩, (mem_GW 942 (by decide +kernel) rfl), (mem_GW 943 (by decide +kernel) rfl)⟩
set_option maxRecDepth 20000 in
set_option maxHeartbeats 4000000 in
theorem c_X7_workBook {k0 : K0} {G : Gx} {Qp : Option AV → Fx → Hp → Prop} (hM : MB (KM k0 0 0 Qp) G M_X7_workBook 2) (v1 : Int) (v2 : Int) (h : Hp)   {P : Int → Prop} (hq : ∀ z : Int, P z → Qp (some (aI z)) FN h) (hh : OK (X7_workBook v1 v2 h) P) : ATk (KM k0 0 0 Qp) FN 0 0 M_X7_workBook 0 [some (aR 3), some (aI v1), some (aI v2)] [] h := by
  unfold X7_workBook at hh
  refine A_blk hM.1 7 (lv1 := [some (aR 3), some (aI v1), some (aI v2)]) (s1 := [aI ((v1 * 40) + v2), aR 10]) (h1 := h) rfl ?_
  refine A_callSN (host := "QuotedBooks") hM rfl rfl (mem_NW 641 (by decide +kernel) rfl) mi_X11_at ms_X11_at (As := [aR 10, aI ((v1 * 40) + v2)]) (rest := []) (ct_X11_at 10 320 ((v1 * 40) + v2) h rfl rfl (OK_bind hh)) (by decide) ⟨Nat.zero_le _, Nat.zero_le _⟩ rfl rfl (Nat.le_of_ble_eq_true rfl) (fun r F' h' hq1 => ?_)
  obtain ⟨rfl, r1, rfl, e9, hh⟩ := hq1
  subst h'
  exact A_reti hM.1 rfl rfl rfl (hq r1 hh)

set_option maxRecDepth 20000 in
set_option maxHeartbeats 4000000 in
theorem ct_X7_workBook {G : Gx} (v1 : Int) (v2 : Int) (h : Hp)   {P : Int → Prop} (hh : OK (X7_workBook v1 v2 h) P) : CT G yX7_workBook M_X7_workBook 2 0 0 FN h [aR 3, aI v1, aI v2] (fun r F' h' => F' = FN ∧ ∃ z, r = some (aI z) ∧ h' = h ∧ P z) :=
  CT.of (by decide +kernel) rfl (Nat.le_of_ble_eq_true rfl) k_X7_workBook fun k0 _ _ hM => c_X7_workBook hM v1 v2 h (fun z hz => ⟨rfl, z, rfl, rfl, hz⟩) hh

theorem mi_X10_push : MIv yX10_push M_X10_push 1 := ⟨⟨(mem_GW 960 (by decide +kernel) rfl), (mem_GW 127 (by decide +kernel) rfl), by decide +kernel, by decide +kernel, by decide +kernel, by decide⟩, (mem_GW 959 (by decide +kernel) rfl), (mem_GW 21 (by decide +kernel) rfl)⟩
set_option maxRecDepth 20000 in
set_option maxHeartbeats 4000000 in
theorem c_X10_push {k0 : K0} {G : Gx} {Qp : Option AV → Fx → Hp → Prop} (hM : MB (KM k0 0 0 Qp) G M_X10_push 1) (t : Nat) (v1 : Int) (h : Hp)  (ht : t ∈ txL) {P : Hp → Prop} (hq : ∀ z : Hp, P z → Qp none FN z) (hh : OK (X10_push t v1 h) P) : ATk (KM k0 0 0 Qp) FN 0 0 M_X10_push 0 [some (aR t), some (aI v1)] [] h := by
  unfold X10_push at hh
  refine A_blk hM.1 1 (lv1 := [some (aR t), some (aI v1)]) (s1 := [aR t]) (h1 := h) rfl ?_
  refine A_gi hM.1 rfl rfl rfl (tx_k0 ht) (tx_l0 ht) rfl ?_
  refine A_ifc hM.1 rfl rfl (fun hc => ?_) (fun hc => ?_)
  · replace hh := OK_t hh hc
    exact A_retv hM.1 rfl rfl rfl (hq h hh)
  · replace hh := OK_f hh hc
    refine A_blk hM.1 1 (lv1 := [some (aR t), some (aI v1)]) (s1 := [aR t]) (h1 := h) rfl ?_
    refine A_gi hM.1 rfl rfl rfl (tx_k0 ht) (tx_l0 ht) rfl ?_
    refine A_blk hM.1 1 (lv1 := [some (aR t), some (aI v1)]) (s1 := [aI 64, aI (h t 9)]) (h1 := h) rfl ?_
    refine A_icmp hM.1 rfl rfl (fun hc => ?_) (fun hc => ?_)
    · replace hh := OK_t hh hc
      exact A_retv hM.1 rfl rfl rfl (hq h hh)
    · replace hh := OK_f hh hc
      refine A_blk hM.1 1 (lv1 := [some (aR t), some (aI v1)]) (s1 := [aR t]) (h1 := h) rfl ?_
      refine A_gr hM.1 rfl rfl rfl (tx_k0 ht) (tx_l0 ht) (Nat.lt_trans (tx_l7 ht) NF_lt) (tx_r8 ht) rfl ?_
      refine A_blk hM.1 1 (lv1 := [some (aR t), some (aI v1)]) (s1 := [aR t, aR (t + 7)]) (h1 := h) rfl ?_
      refine A_gi hM.1 rfl rfl rfl (tx_k0 ht) (tx_l0 ht) rfl ?_
      refine A_blk hM.1 1 (lv1 := [some (aR t), some (aI v1)]) (s1 := [aI v1, aI (h t 9), aR (t + 7)]) (h1 := h) rfl ?_
      obtain ⟨g1, hh⟩ := OK_g hh
      refine A_ast hM.1 rfl (Or.inl ⟨rfl, (tx_k7 ht), rfl⟩) (tx_n7 ht) rfl rfl g1 ?_
      refine A_blk hM.1 2 (lv1 := [some (aR t), some (aI v1)]) (s1 := [aR t, aR t]) (h1 := setH h (t + 7) ((w32 (h t 9)).toNat) v1) rfl ?_
      refine A_gi hM.1 rfl rfl rfl (tx_k0 ht) (tx_l0 ht) rfl ?_
      refine A_blk hM.1 2 (lv1 := [some (aR t), some (aI v1)]) (s1 := [aI (((setH h (t + 7) ((w32 (h t 9)).toNat) v1) t 9) + 1), aR t]) (h1 := setH h (t + 7) ((w32 (h t 9)).toNat) v1) rfl ?_
      refine A_pi hM.1 rfl rfl rfl (tx_k0 ht) (tx_l0 ht) rfl rfl ?_
      exact A_retv hM.1 rfl rfl rfl (hq (setH (setH h (t + 7) ((w32 (h t 9)).toNat) v1) t 9 (((setH h (t + 7) ((w32 (h t 9)).toNat) v1) t 9) + 1)) hh)

set_option maxRecDepth 20000 in
set_option maxHeartbeats 4000000 in
theorem ct_X10_push {G : Gx} (t : Nat) (v1 : Int) (h : Hp)  (ht : t ∈ txL) {P : Hp → Prop} (hh : OK (X10_push t v1 h) P) : CT G yX10_push M_X10_push 1 0 0 FN h [aR t, aI v1] (fun r F' h' => F' = FN ∧ r = none ∧ P h') :=
  CT.of (by decide +kernel) rfl (Nat.le_of_ble_eq_true rfl) k_X10_push fun k0 _ _ hM => c_X10_push hM t v1 h ht (fun z hz => ⟨rfl, rfl, hz⟩) hh

theorem mi_X10_pop : MIv yX10_pop M_X10_pop 0 := ⟨⟨(mem_GW 965 (by decide +kernel) rfl), (mem_GW 127 (by decide +kernel) rfl), by decide +kernel, by decide +kernel, by decide +kernel, by decide⟩, (mem_GW 964 (by decide +kernel) rfl), (mem_GW 22 (by decide +kernel) rfl)⟩
set_option maxRecDepth 20000 in
set_option maxHeartbeats 4000000 in
theorem c_X10_pop {k0 : K0} {G : Gx} {Qp : Option AV → Fx → Hp → Prop} (hM : MB (KM k0 0 0 Qp) G M_X10_pop 1) (t : Nat) (h : Hp)  (ht : t ∈ txL) {P : (Int × Hp) → Prop} (hq : ∀ z : Int × Hp, P z → Qp (some (aI z.1)) FN z.2) (hh : OK (X10_pop t h) P) : ATk (KM k0 0 0 Qp) FN 0 0 M_X10_pop 0 [some (aR t)] [] h := by
  unfold X10_pop at hh
  refine A_blk hM.1 1 (lv1 := [some (aR t)]) (s1 := [aR t]) (h1 := h) rfl ?_
  refine A_gi hM.1 rfl rfl rfl (tx_k0 ht) (tx_l0 ht) rfl ?_
  refine A_blk hM.1 1 (lv1 := [some (aR t)]) (s1 := [aI 1, aI (h t 9)]) (h1 := h) rfl ?_
  refine A_icmp hM.1 rfl rfl (fun hc => ?_) (fun hc => ?_)
  · replace hh := OK_t hh hc
    refine A_blk hM.1 1 (lv1 := [some (aR t)]) (s1 := [aI 0]) (h1 := h) rfl ?_
    exact A_reti hM.1 rfl rfl rfl (hq (0, h) hh)
  · replace hh := OK_f hh hc
    refine A_blk hM.1 1 (lv1 := [some (aR t)]) (s1 := [aR t]) (h1 := h) rfl ?_
    refine A_gi hM.1 rfl rfl rfl (tx_k0 ht) (tx_l0 ht) rfl ?_
    refine A_blk hM.1 1 (lv1 := [some (aR t)]) (s1 := [aI 64, aI (h t 9)]) (h1 := h) rfl ?_
    refine A_icmp hM.1 rfl rfl (fun hc => ?_) (fun hc => ?_)
    · replace hh := OK_t hh hc
      refine A_blk hM.1 2 (lv1 := [some (aR t)]) (s1 := [aR t, aR t]) (h1 := h) rfl ?_
      refine A_gi hM.1 rfl rfl rfl (tx_k0 ht) (tx_l0 ht) rfl ?_
      refine A_blk hM.1 2 (lv1 := [some (aR t)]) (s1 := [aI ((h t 9) - 1), aR t]) (h1 := h) rfl ?_
      refine A_pi hM.1 rfl rfl rfl (tx_k0 ht) (tx_l0 ht) rfl rfl ?_
      refine A_blk hM.1 1 (lv1 := [some (aR t)]) (s1 := [aR t]) (h1 := setH h t 9 ((h t 9) - 1)) rfl ?_
      refine A_gr hM.1 rfl rfl rfl (tx_k0 ht) (tx_l0 ht) (Nat.lt_trans (tx_l7 ht) NF_lt) (tx_r8 ht) rfl ?_
      refine A_blk hM.1 1 (lv1 := [some (aR t)]) (s1 := [aR t, aR (t + 7)]) (h1 := setH h t 9 ((h t 9) - 1)) rfl ?_
      refine A_gi hM.1 rfl rfl rfl (tx_k0 ht) (tx_l0 ht) rfl ?_
      obtain ⟨g1, hh⟩ := OK_g hh
      refine A_ald hM.1 rfl (Or.inl ⟨rfl, (tx_k7 ht)⟩) (tx_n7 ht) (tx_l7 ht) rfl g1 ?_
      exact A_reti hM.1 rfl rfl rfl (hq ((setH h t 9 ((h t 9) - 1)) (t + 7) ((w32 ((setH h t 9 ((h t 9) - 1)) t 9)).toNat), setH h t 9 ((h t 9) - 1)) hh)
    · replace hh := OK_f hh hc
      refine A_blk hM.1 1 (lv1 := [some (aR t)]) (s1 := [aI 0]) (h1 := h) rfl ?_
      exact A_reti hM.1 rfl rfl rfl (hq (0, h) hh)

set_option maxRecDepth 20000 in
set_option maxHeartbeats 4000000 in
theorem ct_X10_pop {G : Gx} (t : Nat) (h : Hp)  (ht : t ∈ txL) {P : (Int × Hp) → Prop} (hh : OK (X10_pop t h) P) : CT G yX10_pop M_X10_pop 1 0 0 FN h [aR t] (fun r F' h' => F' = FN ∧ ∃ z, r = some (aI z.1) ∧ h' = z.2 ∧ P z) :=
  CT.of (by decide +kernel) rfl (Nat.le_of_ble_eq_true rfl) k_X10_pop fun k0 _ _ hM => c_X10_pop hM t h ht (fun z hz => ⟨rfl, z, rfl, rfl, hz⟩) hh

theorem mi_X10_keepsTop : MIv yX10_keepsTop M_X10_keepsTop 1 := ⟨⟨(mem_GW 969 (by decide +kernel) rfl), (mem_GW 127 (by decide +kernel) rfl), by decide +kernel, by decide +kernel, by decide +kernel, by decide⟩, (mem_GW 968 (by decide +kernel) rfl), (mem_GW 23 (by decide +kernel) rfl)⟩
set_option maxRecDepth 20000 in
set_option maxHeartbeats 4000000 in
theorem c_X10_keepsTop_j19 {k0 : K0} {G : Gx} {Qp : Option AV → Fx → Hp → Prop} (hM : MB (KM k0 0 0 Qp) G M_X10_keepsTop 1) (t : Nat) (v1 : Int) (s0 : Int) (h : Hp)  (ht : t ∈ txL) {P : (Int × Hp) → Prop} (hq : ∀ z : Int × Hp, P z → Qp (some (aI z.1)) FN z.2) (hh : OK (X10_keepsTop_j19 t v1 s0 h) P) : ATk (KM k0 0 0 Qp) FN 0 0 M_X10_keepsTop 19 [some (aR t), some (aI v1)] [aI s0] h := by
  unfold X10_keepsTop_j19 at hh
  refine A_blk hM.1 1 (lv1 := [some (aR t), some (aI v1)]) (s1 := [aI v1, aI s0]) (h1 := h) rfl ?_
  refine A_icmp hM.1 rfl rfl (fun hc => ?_) (fun hc => ?_)
  · replace hh := OK_t hh hc
    refine A_blk hM.1 2 (lv1 := [some (aR t), some (aI v1)]) (s1 := [aR t, aR t]) (h1 := h) rfl ?_
    refine A_gi hM.1 rfl rfl rfl (tx_k0 ht) (tx_l0 ht) rfl ?_
    refine A_blk hM.1 2 (lv1 := [some (aR t), some (aI v1)]) (s1 := [aI ((h t 9) - 1), aR t]) (h1 := h) rfl ?_
    refine A_pi hM.1 rfl rfl rfl (tx_k0 ht) (tx_l0 ht) rfl rfl ?_
    refine A_blk hM.1 1 (lv1 := [some (aR t), some (aI v1)]) (s1 := [aI 0]) (h1 := setH h t 9 ((h t 9) - 1)) rfl ?_
    exact A_retz hM.1 rfl rfl rfl (by decide) (hq (0, setH h t 9 ((h t 9) - 1)) hh)
  · replace hh := OK_f hh hc
    refine A_blk hM.1 1 (lv1 := [some (aR t), some (aI v1)]) (s1 := [aI 1]) (h1 := h) rfl ?_
    exact A_retz hM.1 rfl rfl rfl (by decide) (hq (1, h) hh)

set_option maxRecDepth 20000 in
set_option maxHeartbeats 4000000 in
theorem c_X10_keepsTop {k0 : K0} {G : Gx} {Qp : Option AV → Fx → Hp → Prop} (hM : MB (KM k0 0 0 Qp) G M_X10_keepsTop 1) (t : Nat) (v1 : Int) (h : Hp)  (ht : t ∈ txL) {P : (Int × Hp) → Prop} (hq : ∀ z : Int × Hp, P z → Qp (some (aI z.1)) FN z.2) (hh : OK (X10_keepsTop t v1 h) P) : ATk (KM k0 0 0 Qp) FN 0 0 M_X10_keepsTop 0 [some (aR t), some (aI v1)] [] h := by
  unfold X10_keepsTop at hh
  refine A_blk hM.1 1 (lv1 := [some (aR t), some (aI v1)]) (s1 := [aR t]) (h1 := h) rfl ?_
  refine A_gi hM.1 rfl rfl rfl (tx_k0 ht) (tx_l0 ht) rfl ?_
  refine A_blk hM.1 1 (lv1 := [some (aR t), some (aI v1)]) (s1 := [aI 1, aI (h t 9)]) (h1 := h) rfl ?_
  refine A_icmp hM.1 rfl rfl (fun hc => ?_) (fun hc => ?_)
  · replace hh := OK_t hh hc
    refine A_blk hM.1 1 (lv1 := [some (aR t), some (aI v1)]) (s1 := [aI 1]) (h1 := h) rfl ?_
    exact A_retz hM.1 rfl rfl rfl (by decide) (hq (1, h) hh)
  · replace hh := OK_f hh hc
    refine A_blk hM.1 1 (lv1 := [some (aR t), some (aI v1)]) (s1 := [aR t]) (h1 := h) rfl ?_
    refine A_gi hM.1 rfl rfl rfl (tx_k0 ht) (tx_l0 ht) rfl ?_
    refine A_blk hM.1 1 (lv1 := [some (aR t), some (aI v1)]) (s1 := [aI 64, aI (h t 9)]) (h1 := h) rfl ?_
    refine A_icmp hM.1 rfl rfl (fun hc => ?_) (fun hc => ?_)
    · replace hh := OK_t hh hc
      refine A_blk hM.1 1 (lv1 := [some (aR t), some (aI v1)]) (s1 := [aI 1]) (h1 := h) rfl ?_
      exact A_retz hM.1 rfl rfl rfl (by decide) (hq (1, h) hh)
    · replace hh := OK_f hh hc
      refine A_blk hM.1 1 (lv1 := [some (aR t), some (aI v1)]) (s1 := [aR t]) (h1 := h) rfl ?_
      refine A_gr hM.1 rfl rfl rfl (tx_k0 ht) (tx_l0 ht) (Nat.lt_trans (tx_l7 ht) NF_lt) (tx_r8 ht) rfl ?_
      refine A_blk hM.1 1 (lv1 := [some (aR t), some (aI v1)]) (s1 := [aR t, aR (t + 7)]) (h1 := h) rfl ?_
      refine A_gi hM.1 rfl rfl rfl (tx_k0 ht) (tx_l0 ht) rfl ?_
      refine A_blk hM.1 2 (lv1 := [some (aR t), some (aI v1)]) (s1 := [aI ((h t 9) - 1), aR (t + 7)]) (h1 := h) rfl ?_
      obtain ⟨g1, hh⟩ := OK_g hh
      refine A_ald hM.1 rfl (Or.inl ⟨rfl, (tx_k7 ht)⟩) (tx_n7 ht) (tx_l7 ht) rfl g1 ?_
      refine A_ifc hM.1 rfl rfl (fun hc => ?_) (fun hc => ?_)
      · replace hh := OK_t hh hc
        refine A_blk hM.1 1 (lv1 := [some (aR t), some (aI v1)]) (s1 := [aI 0]) (h1 := h) rfl ?_
        exact c_X10_keepsTop_j19 hM t v1 0 h ht hq hh
      · replace hh := OK_f hh hc
        refine A_blk hM.1 1 (lv1 := [some (aR t), some (aI v1)]) (s1 := [aI 1]) (h1 := h) rfl ?_
        refine A_go hM.1 rfl rfl ?_
        exact c_X10_keepsTop_j19 hM t v1 1 h ht hq hh

set_option maxRecDepth 20000 in
set_option maxHeartbeats 4000000 in
theorem ct_X10_keepsTop {G : Gx} (t : Nat) (v1 : Int) (h : Hp)  (ht : t ∈ txL) {P : (Int × Hp) → Prop} (hh : OK (X10_keepsTop t v1 h) P) : CT G yX10_keepsTop M_X10_keepsTop 1 0 0 FN h [aR t, aI v1] (fun r F' h' => F' = FN ∧ ∃ z, r = some (aI z.1) ∧ h' = z.2 ∧ P z) :=
  CT.of (by decide +kernel) rfl (Nat.le_of_ble_eq_true rfl) k_X10_keepsTop fun k0 _ _ hM => c_X10_keepsTop hM t v1 h ht (fun z hz => ⟨rfl, z, rfl, rfl, hz⟩) hh

theorem mi_X10_joined : MIv yX10_joined M_X10_joined 3 := ⟨⟨(mem_GW 973 (by decide +kernel) rfl), (mem_GW 127 (by decide +kernel) rfl), by decide +kernel, by decide +kernel, by decide +kernel, by decide⟩, (mem_GW 972 (by decide +kernel) rfl), (mem_GW 24 (by decide +kernel) rfl)⟩
set_option maxRecDepth 20000 in
set_option maxHeartbeats 4000000 in
theorem c_X10_joined {k0 : K0} {G : Gx} {Qp : Option AV → Fx → Hp → Prop} (hM : MB (KM k0 0 0 Qp) G M_X10_joined 1) (t : Nat) (v1 : Int) (v2 : Int) (v3 : Int) (h : Hp)  (ht : t ∈ txL) {P : (Int × Hp) → Prop} (hq : ∀ z : Int × Hp, P z → Qp (some (aI z.1)) FN z.2) (hh : OK (X10_joined t v1 v2 v3 h) P) : ATk (KM k0 0 0 Qp) FN 0 0 M_X10_joined 0 [some (aR t), some (aI v1), some (aI v2), some (aI v3)] [] h := by
  unfold X10_joined at hh
  refine A_blk hM.1 1 (lv1 := [some (aR t), some (aI v1), some (aI v2), some (aI v3)]) (s1 := [aI v1]) (h1 := h) rfl ?_
  refine A_lsw hM.1 rfl [(42, 10), (43, 2), (45, 6), (60, 14), (61, 28), (62, 21)] 35 (by decide +kernel) ?_
  refine ⟨fun hc => ?_, fun hc => ?_⟩
  · replace hh := OK_t hh hc
    refine A_blk hM.1 3 (lv1 := [some (aR t), some (aI v1), some (aI v2), some (aI v3)]) (s1 := [aI (v2 * v3)]) (h1 := h) rfl ?_
    refine A_nrm ?_
    exact A_reti hM.1 rfl rfl rfl (hq (w32 (v2 * v3), h) hh)
  replace hh := OK_f hh hc
  refine ⟨fun hc => ?_, fun hc => ?_⟩
  · replace hh := OK_t hh hc
    refine A_blk hM.1 3 (lv1 := [some (aR t), some (aI v1), some (aI v2), some (aI v3)]) (s1 := [aI (v2 + v3)]) (h1 := h) rfl ?_
    refine A_nrm ?_
    exact A_reti hM.1 rfl rfl rfl (hq (w32 (v2 + v3), h) hh)
  replace hh := OK_f hh hc
  refine ⟨fun hc => ?_, fun hc => ?_⟩
  · replace hh := OK_t hh hc
    refine A_blk hM.1 3 (lv1 := [some (aR t), some (aI v1), some (aI v2), some (aI v3)]) (s1 := [aI (v2 - v3)]) (h1 := h) rfl ?_
    refine A_nrm ?_
    exact A_reti hM.1 rfl rfl rfl (hq (w32 (v2 - v3), h) hh)
  replace hh := OK_f hh hc
  refine ⟨fun hc => ?_, fun hc => ?_⟩
  · replace hh := OK_t hh hc
    refine A_blk hM.1 2 (lv1 := [some (aR t), some (aI v1), some (aI v2), some (aI v3)]) (s1 := [aI v3, aI v2]) (h1 := h) rfl ?_
    refine A_icmp hM.1 rfl rfl (fun hc => ?_) (fun hc => ?_)
    · replace hh := OK_t hh hc
      refine A_blk hM.1 1 (lv1 := [some (aR t), some (aI v1), some (aI v2), some (aI v3)]) (s1 := [aI 0]) (h1 := h) rfl ?_
      exact A_reti hM.1 rfl rfl rfl (hq (0, h) hh)
    · replace hh := OK_f hh hc
      refine A_blk hM.1 1 (lv1 := [some (aR t), some (aI v1), some (aI v2), some (aI v3)]) (s1 := [aI 1]) (h1 := h) rfl ?_
      refine A_go hM.1 rfl rfl ?_
      exact A_reti hM.1 rfl rfl rfl (hq (1, h) hh)
  replace hh := OK_f hh hc
  refine ⟨fun hc => ?_, fun hc => ?_⟩
  · replace hh := OK_t hh hc
    refine A_blk hM.1 2 (lv1 := [some (aR t), some (aI v1), some (aI v2), some (aI v3)]) (s1 := [aI v3, aI v2]) (h1 := h) rfl ?_
    refine A_icmp hM.1 rfl rfl (fun hc => ?_) (fun hc => ?_)
    · replace hh := OK_t hh hc
      refine A_blk hM.1 1 (lv1 := [some (aR t), some (aI v1), some (aI v2), some (aI v3)]) (s1 := [aI 0]) (h1 := h) rfl ?_
      exact A_reti hM.1 rfl rfl rfl (hq (0, h) hh)
    · replace hh := OK_f hh hc
      refine A_blk hM.1 1 (lv1 := [some (aR t), some (aI v1), some (aI v2), some (aI v3)]) (s1 := [aI 1]) (h1 := h) rfl ?_
      refine A_go hM.1 rfl rfl ?_
      exact A_reti hM.1 rfl rfl rfl (hq (1, h) hh)
  replace hh := OK_f hh hc
  refine ⟨fun hc => ?_, fun hc => ?_⟩
  · replace hh := OK_t hh hc
    refine A_blk hM.1 2 (lv1 := [some (aR t), some (aI v1), some (aI v2), some (aI v3)]) (s1 := [aI v3, aI v2]) (h1 := h) rfl ?_
    refine A_icmp hM.1 rfl rfl (fun hc => ?_) (fun hc => ?_)
    · replace hh := OK_t hh hc
      refine A_blk hM.1 1 (lv1 := [some (aR t), some (aI v1), some (aI v2), some (aI v3)]) (s1 := [aI 0]) (h1 := h) rfl ?_
      exact A_reti hM.1 rfl rfl rfl (hq (0, h) hh)
    · replace hh := OK_f hh hc
      refine A_blk hM.1 1 (lv1 := [some (aR t), some (aI v1), some (aI v2), some (aI v3)]) (s1 := [aI 1]) (h1 := h) rfl ?_
      refine A_go hM.1 rfl rfl ?_
      exact A_reti hM.1 rfl rfl rfl (hq (1, h) hh)
  replace hh := OK_f hh hc
  refine A_blk hM.1 1 (lv1 := [some (aR t), some (aI v1), some (aI v2), some (aI v3)]) (s1 := [aI v3]) (h1 := h) rfl ?_
  refine A_ifc hM.1 rfl rfl (fun hc => ?_) (fun hc => ?_)
  · replace hh := OK_t hh hc
    refine A_blk hM.1 2 (lv1 := [some (aR t), some (aI v1), some (aI v2), some (aI v3)]) (s1 := [aI 47, aI v1]) (h1 := h) rfl ?_
    refine A_icmp hM.1 rfl rfl (fun hc => ?_) (fun hc => ?_)
    · replace hh := OK_t hh hc
      refine A_blk hM.1 2 (lv1 := [some (aR t), some (aI v1), some (aI v2), some (aI v3)]) (s1 := [aI v3, aI v2]) (h1 := h) rfl ?_
      obtain ⟨g1, hh⟩ := OK_g hh
      refine A_irem hM.1 rfl rfl g1 ?_
      exact A_reti hM.1 rfl rfl rfl (hq (rem32 v2 v3, h) hh)
    · replace hh := OK_f hh hc
      refine A_blk hM.1 2 (lv1 := [some (aR t), some (aI v1), some (aI v2), some (aI v3)]) (s1 := [aI v3, aI v2]) (h1 := h) rfl ?_
      obtain ⟨g2, hh⟩ := OK_g hh
      refine A_idiv hM.1 rfl rfl g2 ?_
      refine A_go hM.1 rfl rfl ?_
      exact A_reti hM.1 rfl rfl rfl (hq (div32 v2 v3, h) hh)
  · replace hh := OK_f hh hc
    refine A_blk hM.1 2 (lv1 := [some (aR t), some (aI v1), some (aI v2), some (aI v3)]) (s1 := [aI 1, aR t]) (h1 := h) rfl ?_
    refine A_putz hM.1 rfl rfl rfl (tx_l0 ht) (tx_k0 ht) rfl rfl (by decide) ?_
    refine A_blk hM.1 1 (lv1 := [some (aR t), some (aI v1), some (aI v2), some (aI v3)]) (s1 := [aI 0]) (h1 := setH h t 10 1) rfl ?_
    exact A_reti hM.1 rfl rfl rfl (hq (0, setH h t 10 1) hh)

set_option maxRecDepth 20000 in
set_option maxHeartbeats 4000000 in
theorem ct_X10_joined {G : Gx} (t : Nat) (v1 : Int) (v2 : Int) (v3 : Int) (h : Hp)  (ht : t ∈ txL) {P : (Int × Hp) → Prop} (hh : OK (X10_joined t v1 v2 v3 h) P) : CT G yX10_joined M_X10_joined 1 0 0 FN h [aR t, aI v1, aI v2, aI v3] (fun r F' h' => F' = FN ∧ ∃ z, r = some (aI z.1) ∧ h' = z.2 ∧ P z) :=
  CT.of (by decide +kernel) rfl (Nat.le_of_ble_eq_true rfl) k_X10_joined fun k0 _ _ hM => c_X10_joined hM t v1 v2 v3 h ht (fun z hz => ⟨rfl, z, rfl, rfl, hz⟩) hh

