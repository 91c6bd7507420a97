def SwG (v : Int) (P : Nat → Prop) : List (Int × Nat) → Nat → Prop
  | [], kd => P kd
  | e :: r, kd => (v = e.1 → P e.2) ∧ (¬ v = e.1 → SwG v P r kd)
def lkS : List (Int × Nat) → Nat → Int → Nat
  | [], kd, _ => kd
  | e :: r, kd, v => if v = e.1 then e.2 else lkS r kd v
theorem SwG_to {v : Int} {P : Nat → Prop} : ∀ {f : List (Int × Nat)} {kd : Nat}, SwG v P f kd → P (lkS f kd v)
  | [], _, h => h
  | e :: r, kd, h => by
    unfold lkS
    split
    · rename_i q; exact h.1 q
    · rename_i q; exact SwG_to (h.2 q)
theorem lkS_out {v lo hi : Int} : ∀ {f : List (Int × Nat)} {kd : Nat}, f.all (fun e => decide (lo ≤ e.1 ∧ e.1 ≤ hi)) = true → (v < lo ∨ hi < v) → lkS f kd v = kd
  | [], _, _, _ => rfl
  | e :: r, kd, h, hv => by
    simp only [List.all_cons, Bool.and_eq_true, decide_eq_true_eq] at h
    unfold lkS
    rw [if_neg (by omega)]
    exact lkS_out h.2 hv
/-- the rows of a tableswitch against a list of cases -/
def okT (tab : List IT) (k : Nat) (f : List (Int × Nat)) (kd : Nat) : Bool := match tab[k]? with
  | some (.tableswitch d lo hi offs, _, _) => decide ((pcAt tab k : Int) + d = (pcAt tab kd : Int)) && f.all (fun e => decide (lo ≤ e.1 ∧ e.1 ≤ hi)) && decide ((offs.size : Int) = hi - lo + 1) && (List.range offs.size).all (fun j => decide ((pcAt tab k : Int) + offs.getD j 0 = (pcAt tab (lkS f kd (lo + j)) : Int)))
  | _ => false
def okL (pc : Int) (tab : List IT) : List (Int × Int) → List (Int × Nat) → Int → Nat → Bool
  | [], [], d, kd => decide (pc + d = (pcAt tab kd : Int))
  | a :: r, b :: s, d, kd => decide (a.1 = b.1) && decide (pc + a.2 = (pcAt tab b.2 : Int)) && okL pc tab r s d kd
  | _, _, _, _ => false
theorem okL_at {pc : Int} {tab : List IT} {v : Int} : ∀ {ps : List (Int × Int)} {f : List (Int × Nat)} {d : Int} {kd : Nat}, okL pc tab ps f d kd = true → pc + Op.lookupswitch.offset ps d v = (pcAt tab (lkS f kd v) : Int)
  | [], [], d, kd, h => by simpa [okL, lkS, Op.lookupswitch.offset] using h
  | a :: r, b :: s, d, kd, h => by
    simp only [okL, Bool.and_eq_true, decide_eq_true_eq] at h
    obtain ⟨⟨h1, h2⟩, h3⟩ := h
    obtain ⟨a1, a2⟩ := a
    rw [Op.lookupswitch.offset_cons]
    unfold lkS
    by_cases q : v = b.1
    · rw [if_pos q, if_pos (by omega)]; exact h2
    · rw [if_neg q, if_neg (by omega)]; exact okL_at h3
  | [], b :: s, d, kd, h => by simp [okL] at h
  | a :: r, [], d, kd, h => by simp [okL] at h
def okLS (tab : List IT) (k : Nat) (f : List (Int × Nat)) (kd : Nat) : Bool := match tab[k]? with
  | some (.lookupswitch d ps, _, _) => okL (pcAt tab k : Int) tab ps.toList f d kd && (ps.toList.zip (ps.toList.drop 1)).all (fun (a, next) => a.1 < next.1)
  | _ => false
section RU5
variable {K : Kx} {G : Gx} {F : Fx} {cs sl k d : Nat} {M : Mx} {lv lv1 : List (Option AV)} {st s1 : List AV} {h h1 : Hp}
theorem A_tsw {dflt lo hi x : Int} {offs : Array Int} {len kt : Nat} (hM : MK K M) (he : M.2.1[k]? = some (.tableswitch dflt lo hi offs, len, kt)) (f : List (Int × Nat)) (kd : Nat) (hok : okT M.2.1 k f kd = true) (kk : SwG (w32 x) (fun j => ATk K F cs sl M j lv st h) f kd) : ATk K F cs sl M k lv (aI x :: st) h := by
  have hdec := (hM.dec he).1
  have k1 := SwG_to kk
  unfold okT at hok
  rw [he] at hok
  simp only [Bool.and_eq_true, decide_eq_true_eq] at hok
  obtain ⟨⟨⟨h1, h2⟩, h3⟩, h4⟩ := hok
  obtain ⟨⟨l, D, cy, b0, aS, aV⟩, p, ee, R, s, m, args, below, meth, c, Q⟩ := K
  obtain ⟨hx, hb, hrt, hml, hown, hts, hlk, hWk⟩ := hM.1
  intro H locs ls hW hS hL hmx
  have e0 : (Int32.ofInt x).toInt = w32 x := rfl
  by_cases hr : w32 x < lo ∨ hi < w32 x
  · rw [lkS_out h2 hr] at k1
    exact lv_tableOut hx hb hdec hr h1 (k1 H locs ls hW hS hL hmx)
  · have hlt : (w32 x - lo).toNat < offs.size := by omega
    have h5 := List.all_eq_true.mp h4 _ (List.mem_range.mpr hlt)
    simp only [decide_eq_true_eq] at h5
    rw [show lo + ((w32 x - lo).toNat : Int) = w32 x by omega] at h5
    have h6 : offs[(w32 x - lo).toNat]? = some (offs.getD (w32 x - lo).toNat 0) := by
      rw [Array.getD_eq_getD_getElem?, Array.getElem?_eq_getElem hlt]; rfl
    exact lv_tableIn hx hb hdec (by rw [e0]; omega) (by rw [e0]; omega) (by rw [e0]; exact h6) h5 (k1 H locs ls hW hS hL hmx)
theorem A_lsw {dflt x : Int} {ps : Array (Int × Int)} {len kt : Nat} (hM : MK K M) (he : M.2.1[k]? = some (.lookupswitch dflt ps, len, kt)) (f : List (Int × Nat)) (kd : Nat) (hok : okLS M.2.1 k f kd = true) (kk : SwG (w32 x) (fun j => ATk K F cs sl M j lv st h) f kd) : ATk K F cs sl M k lv (aI x :: st) h := by
  have hdec := (hM.dec he).1
  have k1 := SwG_to kk
  unfold okLS at hok
  rw [he] at hok
  simp only [Bool.and_eq_true] at hok
  obtain ⟨h1, h2⟩ := hok
  have h3 := okL_at (v := w32 x) h1
  obtain ⟨⟨l, D, cy, b0, aS, aV⟩, p, ee, R, s, m, args, below, meth, c, Q⟩ := K
  obtain ⟨hx, hb, hrt, hml, hown, hts, hlk, hWk⟩ := hM.1
  intro H locs ls hW hS hL hmx
  exact lv_lookup hx hb hdec h2 rfl h3 (k1 H locs ls hW hS hL hmx)
theorem A_gl {a idx i0 ci j i9 len kt : Nat} (hM : MK K M) (he : M.2.1[k]? = some (.getfield idx, len, kt)) (hlen : len = 3) (hl : lkF M.1 idx = some (i0, ci, j, i9)) (hkd : kd a = ci) (ha : a < F.1) (hft : ft ci j = 1) (kk : ATk K F cs sl M (k + 1) lv (aL (h a j) :: st) h) : ATk K F cs sl M k lv (aR a :: st) h := by
  subst hlen
  refine A_blk hM 1 (lv1 := lv) (s1 := aL (h a j) :: st) (h1 := h) ?_ kk
  have hci := (lk_spec (lk_lt hl) hl).2.2
  have hlt : a < 1000 := Nat.lt_trans (kd_in hkd (by omega)) NF_lt
  rw [List.drop_eq_getElem?_toList_append, he]
  simp only [Option.toList, List.cons_append, sxl, sx1, if_true, sxGet, hl, ha, hlt, hkd, and_self, if_true]
  simp [hft]
theorem A_gr {a x idx i0 ci j i9 len kt : Nat} (hM : MK K M) (he : M.2.1[k]? = some (.getfield idx, len, kt)) (hlen : len = 3) (hl : lkF M.1 idx = some (i0, ci, j, i9)) (hkd : kd a = ci) (ha : a < F.1) (hx : x < 1000) (hr : F.2 a j = some x) (hft : ft ci j = 2) (kk : ATk K F cs sl M (k + 1) lv (aR x :: st) h) : ATk K F cs sl M k lv (aR a :: st) h := by
  subst hlen
  refine A_blk hM 1 (lv1 := lv) (s1 := aR x :: st) (h1 := h) ?_ kk
  have hci := (lk_spec (lk_lt hl) hl).2.2
  have hlt : a < 1000 := Nat.lt_trans (kd_in hkd (by omega)) NF_lt
  rw [List.drop_eq_getElem?_toList_append, he]
  simp only [Option.toList, List.cons_append, sxl, sx1, if_true, sxGet, hl, ha, hlt, hkd, and_self, if_true]
  simp [hft, hr, hx]
theorem A_pi {a idx i0 ci j i9 len kt : Nat} {z : Int} (hM : MK K M) (he : M.2.1[k]? = some (.putfield idx, len, kt)) (hlen : len = 3) (hl : lkF M.1 idx = some (i0, ci, j, i9)) (hkd : kd a = ci) (ha : a < F.1) (hft : ft ci j = 0) (hfin : fin_ ci j = false) (kk : ATk K F cs sl M (k + 1) lv st (setH h a j z)) : ATk K F cs sl M k lv (aI z :: aR a :: st) h := by
  subst hlen
  refine A_blk hM 1 (lv1 := lv) (s1 := st) (h1 := setH h a j z) ?_ kk
  have hci := (lk_spec (lk_lt hl) hl).2.2
  have hlt : a < 1000 := Nat.lt_trans (kd_in hkd (by omega)) NF_lt
  rw [List.drop_eq_getElem?_toList_append, he]
  simp only [Option.toList, List.cons_append, sxl, sx1, if_true, sxPut, hl]
  simp [ha, hlt, hkd, hft, hfin]
theorem A_pl {a idx i0 ci j i9 len kt : Nat} {z : Int} (hM : MK K M) (he : M.2.1[k]? = some (.putfield idx, len, kt)) (hlen : len = 3) (hl : lkF M.1 idx = some (i0, ci, j, i9)) (hkd : kd a = ci) (ha : a < F.1) (hft : ft ci j = 1) (hfin : fin_ ci j = false) (kk : ATk K F cs sl M (k + 1) lv st (setH h a j z)) : ATk K F cs sl M k lv (aL z :: aR a :: st) h := by
  subst hlen
  refine A_blk hM 1 (lv1 := lv) (s1 := st) (h1 := setH h a j z) ?_ kk
  have hci := (lk_spec (lk_lt hl) hl).2.2
  have hlt : a < 1000 := Nat.lt_trans (kd_in hkd (by omega)) NF_lt
  rw [List.drop_eq_getElem?_toList_append, he]
  simp only [Option.toList, List.cons_append, sxl, sx1, if_true, sxPut, hl]
  simp [ha, hlt, hkd, hft, hfin]
/-- a text's constant -/
theorem A_ldcs {idx len kt j : Nat} {o idx2 i : Nat} {tx : String} (hM : MK K M) (he : M.2.1[k]? = some (.ldc idx, len, kt)) (hlen : len = 2) (hj : j < 10) (hs : srL.getD j (0, 0, "", 0) = (o, idx2, tx, i)) (hoi : (o = M.1 ∧ idx2 = idx : Bool) = true) (kk : ATk K F cs sl M (k + 1) lv (aR (1000 + j) :: st) h) : ATk K F cs sl M k lv st h := by
  subst hlen
  have hdec := (hM.dec he).1
  unfold ATk at kk ⊢
  rw [pcAt_succ he] at kk
  simp only [Bool.decide_and, Bool.and_eq_true, decide_eq_true_eq] at hoi
  obtain ⟨rfl, rfl⟩ := hoi
  obtain ⟨⟨l, D, cy, b0, aS, aV⟩, p, ee, R, s, m, args, below, meth, c, Q⟩ := K
  obtain ⟨hx, hb, hrt, hml, hown, hts, hlk, hWk⟩ := hM.1
  intro H locs ls hW hS hL hmx
  have hz := hWk.2.2.1.2.1 j hj
  rw [hs] at hz
  have k1 := kk H locs ls hW hS hL hmx
  have e1 : cv b0 aS (aR (1000 + j)) = .ref (aS j) := by
    show Value.ref (ad b0 aS (1000 + j)) = _
    unfold ad
    rw [if_neg (by omega), show 1000 + j - 1000 = j by omega]
  rw [List.map_cons, e1] at k1
  exact va_ldcS hx hb hown hz hdec k1
/-- System.arraycopy of whole rows of ints -/
theorem A_copy {a b n len kt idx : Nat} (hM : MK K M) (he : M.2.1[k]? = some (.invokestatic idx, len, kt)) (hlen : len = 3) (hlink : .methodLink (clR M.1) idx arraycopyName ∈ GW) (hka : kd a = 14) (hkb : kd b = 14) (hna : ln a = n) (hnb : ln b = n) (haF : a < F.1) (hbF : b < F.1) (hF : F.1 = NF) (hn : n ≤ 1000) (hst : catW st ≤ 8) (hR : (1 ≤ K.2.2.2.1.frames ∧ 100 ≤ K.2.2.2.1.locals)) (kk : ATk K F cs sl M (k + 1) lv st (cpyH h a b n)) : ATk K F cs sl M k lv (aI (n : Int) :: aI 0 :: aR b :: aI 0 :: aR a :: st) h := by
  subst hlen
  have hdec := (hM.dec he).1
  unfold ATk at kk ⊢
  rw [pcAt_succ he] at kk
  obtain ⟨⟨l, D, cy, b0, aS, aV⟩, p, ee, R, s, m, args, below, meth, c, Q⟩ := K
  obtain ⟨hx, hb, hrt, hml, hown, hts, hlk, hWk⟩ := hM.1
  intro H locs ls hW hS hL hmx
  have hla : a < 1000 := Nat.lt_trans (kd_in hka (by omega)) NF_lt
  have hlb : b < 1000 := Nat.lt_trans (kd_in hkb (by omega)) NF_lt
  show W p l ee R s m args below meth c H locs cs sl Q (F0 m _ ls (.int (Int32.ofInt (n : Int)) :: .int (Int32.ofInt 0) :: .ref (ad b0 aS b) :: .int (Int32.ofInt 0) :: .ref (ad b0 aS a) :: _))
  rw [adlt hla, adlt hlb]
  have e0 : (Int32.ofInt 0).toNatClampNeg = 0 := rfl
  have ei : (Int32.ofInt (n : Int)).toInt = (n : Int) := Int32.toInt_ofInt_of_le (by omega) (by omega)
  have en : (Int32.ofInt (n : Int)).toNatClampNeg = n := by
    show ((Int32.ofInt (n : Int)).toInt).toNat = n
    rw [ei]; omega
  refine va_copyi (f := fun j => Int32.ofInt (h a j)) (g := fun j => Int32.ofInt (h b j)) (n0 := n) (n1 := n) (ty := .int) hx hb (hmx.trans hL.2.1.symm) hown (hts _ hlink) (hts _ (mem_GW 900 (by decide +kernel) rfl)) (hts _ (mem_GW 899 (by decide +kernel) rfl)) (hts _ (mem_GW 142 (by decide +kernel) rfl)) hWk.1 hW.1 WSl_D hS a b 1 1 (by rw [WSl_get haF, cellE_arr hka (Or.inr (Or.inl rfl)), hna]) (by rw [WSl_get hbF, cellE_arr hkb (Or.inr (Or.inl rfl)), hnb]) rfl rfl rfl (by decide) (by decide) (by
    intro q
    have := Int32.lt_iff_toInt_lt.mp q
    rw [ei, Int32.toInt_zero] at this
    omega) (by rw [e0, en]; omega) (by rw [e0, en]; omega) (fun _ _ => rfl) hR.1 (by
    have h9 : nativeFrameWords "java/lang/System" "arraycopy" 5 ≤ 60 := by decide +kernel
    have h8 : 100 ≤ R.locals := hR.2
    have h7 := catW_le (b0 := b0) (aS := aS) st
    omega) hdec fun H1 locs1 hP1 hD1 hS1 => ?_
  rw [e0, en] at hP1
  refine kk H1 locs1 ls (Wd_set hbF (fun j hj => ?_) ?_ hW (fun q => absurd q (by rw [hF]; exact Nat.lt_irrefl _)) hP1) hS1 hL hmx
  · funext i
    unfold cpyH
    rw [if_neg (fun q => hj q.1)]
  · rw [cellE_arr hkb (Or.inr (Or.inl rfl)), hnb]
    congr 4
    funext i
    unfold cpyH va_cpy
    by_cases hi : i < n
    · simp [hi]
    · simp [hi]
def maxI (x y : Int) : Int := if w32 x < w32 y then y else x
def minI (x y : Int) : Int := if w32 y < w32 x then y else x
def absI (x : Int) : Int := if 0 ≤ w32 x then x else 0 - x
theorem A_max {idx len kt : Nat} {x y : Int} (hM : MB K G M d) (he : M.2.1[k]? = some (.invokestatic idx, len, kt)) (hlen : len = 3) (hlink : .methodLink (clR M.1) idx Lib.Math.max.name ∈ GW) (hd : 1 < d) (hst : catW st ≤ 8) (hcs : cs ≤ K.2.2.2.1.cells ∧ sl ≤ K.2.2.2.1.slots) (kk : ATk K F cs sl M (k + 1) lv (aI (maxI x y) :: st) h) : ATk K F cs sl M k lv (aI y :: aI x :: st) h := by
  subst hlen
  obtain ⟨hM, hKG, hfr, hlo⟩ := hM
  have hdec := (hM.dec he).1
  unfold ATk at kk ⊢
  rw [pcAt_succ he] at kk
  obtain ⟨⟨l, D, cy, b0, aS, aV⟩, p, ee, R, s, m, args, below, meth, c, Q⟩ := K
  obtain ⟨hx, hb, hrt, hml, hown, hts, hlk, hWk⟩ := hM.1
  intro H locs ls hW hS hL hmx
  have k1 := kk H locs ls hW hS hL hmx
  have e : Int32.ofInt (maxI x y) = if Int32.ofInt x < Int32.ofInt y then Int32.ofInt y else Int32.ofInt x := by
    unfold maxI
    by_cases q : w32 x < w32 y
    · rw [if_pos q, if_pos (w32_lt.mpr q)]
    · rw [if_neg q, if_neg (fun z => q (w32_lt.mp z))]
  rw [List.map_cons, show cv b0 aS (aI (maxI x y)) = .int (Int32.ofInt (maxI x y)) from rfl, e] at k1
  exact va_mmax hx hb (hmx.trans hL.2.1.symm) hown (hts _ hlink) (hts _ (mem_GW 761 (by decide +kernel) rfl)) (hts _ (mem_GW 138 (by decide +kernel) rfl)) (hts _ (mem_GW 762 (by decide +kernel) rfl)) (Nat.le_trans (by omega) hfr) (by
    have h7 := catW_le (b0 := b0) (aS := aS) st
    have : 34 * d ≤ R.locals := hlo
    omega) hcs.1 hcs.2 hdec k1
theorem A_min {idx len kt : Nat} {x y : Int} (hM : MB K G M d) (he : M.2.1[k]? = some (.invokestatic idx, len, kt)) (hlen : len = 3) (hlink : .methodLink (clR M.1) idx Lib.Math.min.name ∈ GW) (hd : 1 < d) (hst : catW st ≤ 8) (hcs : cs ≤ K.2.2.2.1.cells ∧ sl ≤ K.2.2.2.1.slots) (kk : ATk K F cs sl M (k + 1) lv (aI (minI x y) :: st) h) : ATk K F cs sl M k lv (aI y :: aI x :: st) h := by
  subst hlen
  obtain ⟨hM, hKG, hfr, hlo⟩ := hM
  have hdec := (hM.dec he).1
  unfold ATk at kk ⊢
  rw [pcAt_succ he] at kk
  obtain ⟨⟨l, D, cy, b0, aS, aV⟩, p, ee, R, s, m, args, below, meth, c, Q⟩ := K
  obtain ⟨hx, hb, hrt, hml, hown, hts, hlk, hWk⟩ := hM.1
  intro H locs ls hW hS hL hmx
  have k1 := kk H locs ls hW hS hL hmx
  have e : Int32.ofInt (minI x y) = if Int32.ofInt y < Int32.ofInt x then Int32.ofInt y else Int32.ofInt x := by
    unfold minI
    by_cases q : w32 y < w32 x
    · rw [if_pos q, if_pos (w32_lt.mpr q)]
    · rw [if_neg q, if_neg (fun z => q (w32_lt.mp z))]
  rw [List.map_cons, show cv b0 aS (aI (minI x y)) = .int (Int32.ofInt (minI x y)) from rfl, e] at k1
  exact va_mmin hx hb (hmx.trans hL.2.1.symm) hown (hts _ hlink) (hts _ (mem_GW 764 (by decide +kernel) rfl)) (hts _ (mem_GW 138 (by decide +kernel) rfl)) (hts _ (mem_GW 765 (by decide +kernel) rfl)) (Nat.le_trans (by omega) hfr) (by
    have h7 := catW_le (b0 := b0) (aS := aS) st
    have : 34 * d ≤ R.locals := hlo
    omega) hcs.1 hcs.2 hdec k1
theorem A_abs {idx len kt : Nat} {x : Int} (hM : MB K G M d) (he : M.2.1[k]? = some (.invokestatic idx, len, kt)) (hlen : len = 3) (hlink : .methodLink (clR M.1) idx Lib.Math.abs.name ∈ GW) (hd : 1 < d) (hst : catW st ≤ 8) (hcs : cs ≤ K.2.2.2.1.cells ∧ sl ≤ K.2.2.2.1.slots) (kk : ATk K F cs sl M (k + 1) lv (aI (absI x) :: st) h) : ATk K F cs sl M k lv (aI x :: st) h := by
  subst hlen
  obtain ⟨hM, hKG, hfr, hlo⟩ := hM
  have hdec := (hM.dec he).1
  unfold ATk at kk ⊢
  rw [pcAt_succ he] at kk
  obtain ⟨⟨l, D, cy, b0, aS, aV⟩, p, ee, R, s, m, args, below, meth, c, Q⟩ := K
  obtain ⟨hx, hb, hrt, hml, hown, hts, hlk, hWk⟩ := hM.1
  intro H locs ls hW hS hL hmx
  have k1 := kk H locs ls hW hS hL hmx
  have e : Int32.ofInt (absI x) = if 0 ≤ Int32.ofInt x then Int32.ofInt x else 0 - Int32.ofInt x := by
    unfold absI
    by_cases q : 0 ≤ w32 x
    · have q2 : (0 : Int32) ≤ Int32.ofInt x := (w32_le (x := 0) (y := x)).mpr (by rw [w32_0]; exact q)
      rw [if_pos q, if_pos q2]
    · rw [if_neg q, if_neg (fun z => q (by have := w32_le.mp (show Int32.ofInt 0 ≤ Int32.ofInt x from z); rw [w32_0] at this; exact this)), i32_sub]; rfl
  rw [List.map_cons, show cv b0 aS (aI (absI x)) = .int (Int32.ofInt (absI x)) from rfl, e] at k1
  exact va_mabs hx hb (hmx.trans hL.2.1.symm) hown (hts _ hlink) (hts _ (mem_GW 1492 (by decide +kernel) rfl)) (hts _ (mem_GW 138 (by decide +kernel) rfl)) (hts _ (mem_GW 1493 (by decide +kernel) rfl)) (Nat.le_trans (by omega) hfr) (by
    have h7 := catW_le (b0 := b0) (aS := aS) st
    have : 34 * d ≤ R.locals := hlo
    omega) hcs.1 hcs.2 hdec k1
/-! the texts that are constants: an object (from 1000 on) and its bytes (from 2000 on) -/
def sLn (w : Nat) : Nat := strLen.getD w 0
def sBy (w i : Nat) : Int := ((strByt.getD w []).getD i 0).toInt
theorem adw {b0 w : Nat} {aS : Nat → Nat} : ad b0 aS (1000 + w) = aS w := by
  unfold ad
  rw [if_neg (by omega), show 1000 + w - 1000 = w by omega]
theorem adwb {b0 w : Nat} {aS aV : Nat → Nat} (h : aS (1000 + w) = aV w) : ad b0 aS (2000 + w) = aV w := by
  unfold ad
  rw [if_neg (by omega), show 2000 + w - 1000 = 1000 + w by omega, h]
theorem A_gsv {w idx len kt : Nat} (hM : MK K M) (hw : w < 10) (he : M.2.1[k]? = some (.getfield idx, len, kt)) (hlen : len = 3) (hlink : .fieldLink (clR M.1) idx "java/lang/String" "value" "[B" ∈ GW) (kk : ATk K F cs sl M (k + 1) lv (aR (2000 + w) :: st) h) : ATk K F cs sl M k lv (aR (1000 + w) :: st) h := by
  subst hlen
  have hdec := (hM.dec he).1
  unfold ATk at kk ⊢
  rw [pcAt_succ he] at kk
  obtain ⟨⟨l, D, cy, b0, aS, aV⟩, p, ee, R, s, m, args, below, meth, c, Q⟩ := K
  obtain ⟨hx, hb, hrt, hml, hown, hts, hlk, hWk⟩ := hM.1
  intro H locs ls hW hS hL hmx
  have k1 := kk H locs ls hW hS hL hmx
  rw [List.map_cons, show cv b0 aS (aR (2000 + w)) = .ref (aV w) by show Value.ref _ = _; rw [adwb (hWk.2.2.1.2.2.1 w hw)]] at k1
  show W p l ee R s m args below meth c H locs cs sl Q (F0 m _ ls (.ref (ad b0 aS (1000 + w)) :: _))
  rw [adw]
  exact vk_getf hx hb (hWk.2.2.1.1.1 w hw).2.2.1 hS hown (hts _ hlink) (fun _ h9 => h9) hdec k1
theorem A_gsc {w idx len kt : Nat} (hM : MK K M) (hw : w < 10) (he : M.2.1[k]? = some (.getfield idx, len, kt)) (hlen : len = 3) (hlink : .fieldLink (clR M.1) idx "java/lang/String" "coder" "B" ∈ GW) (kk : ATk K F cs sl M (k + 1) lv (aI 0 :: st) h) : ATk K F cs sl M k lv (aR (1000 + w) :: st) h := by
  subst hlen
  have hdec := (hM.dec he).1
  unfold ATk at kk ⊢
  rw [pcAt_succ he] at kk
  obtain ⟨⟨l, D, cy, b0, aS, aV⟩, p, ee, R, s, m, args, below, meth, c, Q⟩ := K
  obtain ⟨hx, hb, hrt, hml, hown, hts, hlk, hWk⟩ := hM.1
  intro H locs ls hW hS hL hmx
  have k1 := kk H locs ls hW hS hL hmx
  show W p l ee R s m args below meth c H locs cs sl Q (F0 m _ ls (.ref (ad b0 aS (1000 + w)) :: _))
  rw [adw]
  exact vk_getf hx hb (hWk.2.2.1.1.1 w hw).2.1 hS hown (hts _ hlink) (fun _ h9 => h9) hdec k1
theorem A_gst {idx len kt : Nat} (hM : MK K M) (he : M.2.1[k]? = some (.getstatic idx, len, kt)) (hlen : len = 3) (hlink : .fieldLink (clR M.1) idx "java/lang/String" "COMPACT_STRINGS" "Z" ∈ GW) (kk : ATk K F cs sl M (k + 1) lv (aI 1 :: st) h) : ATk K F cs sl M k lv st h := by
  subst hlen
  have hdec := (hM.dec he).1
  unfold ATk at kk ⊢
  rw [pcAt_succ he] at kk
  obtain ⟨⟨l, D, cy, b0, aS, aV⟩, p, ee, R, s, m, args, below, meth, c, Q⟩ := K
  obtain ⟨hx, hb, hrt, hml, hown, hts, hlk, hWk⟩ := hM.1
  intro H locs ls hW hS hL hmx
  exact va_gets hx hb hWk.2.2.1.2.2.2.1 hS hown (hts _ hlink) (fun _ h9 => h9) hdec (kk H locs ls hW hS hL hmx)
theorem A_alens {w len kt : Nat} (hM : MK K M) (hw : w < 10) (he : M.2.1[k]? = some (.arraylength, len, kt)) (hlen : len = 1) (kk : ATk K F cs sl M (k + 1) lv (aI (sLn w : Nat) :: st) h) : ATk K F cs sl M k lv (aR (2000 + w) :: st) h := by
  subst hlen
  have hdec := (hM.dec he).1
  unfold ATk at kk ⊢
  rw [pcAt_succ he] at kk
  obtain ⟨⟨l, D, cy, b0, aS, aV⟩, p, ee, R, s, m, args, below, meth, c, Q⟩ := K
  obtain ⟨hx, hb, hrt, hml, hown, hts, hlk, hWk⟩ := hM.1
  intro H locs ls hW hS hL hmx
  show W p l ee R s m args below meth c H locs cs sl Q (F0 m _ ls (.ref (ad b0 aS (2000 + w)) :: _))
  rw [adwb (hWk.2.2.1.2.2.1 w hw)]
  exact va_tlen hx hb (hWk.2.2.1.1.1 w hw).2.2.2 hS rfl hdec (kk H locs ls hW hS hL hmx)
theorem A_balds {w len kt : Nat} {i : Int} (hM : MK K M) (hw : w < 10) (he : M.2.1[k]? = some (.baload, len, kt)) (hlen : len = 1) (hi : inb i (sLn w)) (kk : ATk K F cs sl M (k + 1) lv (aI (sBy w (w32 i).toNat) :: st) h) : ATk K F cs sl M k lv (aI i :: aR (2000 + w) :: st) h := by
  subst hlen
  have hdec := (hM.dec he).1
  unfold ATk at kk ⊢
  rw [pcAt_succ he] at kk
  obtain ⟨⟨l, D, cy, b0, aS, aV⟩, p, ee, R, s, m, args, below, meth, c, Q⟩ := K
  obtain ⟨hx, hb, hrt, hml, hown, hts, hlk, hWk⟩ := hM.1
  intro H locs ls hW hS hL hmx
  show W p l ee R s m args below meth c H locs cs sl Q (F0 m _ ls (.int (Int32.ofInt i) :: .ref (ad b0 aS (2000 + w)) :: _))
  rw [adwb (hWk.2.2.1.2.2.1 w hw)]
  exact va_tb hx hb (hWk.2.2.1.1.1 w hw).2.2.2 hS (inb_vp hi) (by
    show Value.int _ = Value.int (Int32.ofInt (sBy w (w32 i).toNat))
    unfold sBy
    rw [i32_of]
    rfl) hdec (kk H locs ls hW hS hL hmx)
theorem A_callVs {Qc : Option AV → Fx → Hp → Prop} {y : MethodName} {My : Mx} {np idx len kt d1 w : Nat} {As rest : List AV} (hM : MB K G M d) (hw : w < 10) (he : M.2.1[k]? = some (.invokevirtual idx, len, kt)) (hlen : len = 3) (hlink : .methodLink (clR M.1) idx y ∈ GW) (hi : MIv y My np) (hC : CT G y My d1 0 0 F h (aR (1000 + w) :: As) Qc) (hd : d1 < d) (hcs : cs ≤ K.2.2.2.1.cells ∧ sl ≤ K.2.2.2.1.slots) (hst : As.reverse ++ aR (1000 + w) :: rest = st) (hnp : As.length = np) (hrest : catW rest ≤ 8) (hyc : "java/lang/String" = y.cls)
    (kk : ∀ (r : Option AV) (F' : Fx) (h' : Hp), Qc r F' h' → ATk K F' cs sl M (k + 1) lv (r.toList ++ rest) h') : ATk K F cs sl M k lv st h := by
  subst hlen
  subst hst
  obtain ⟨hMK, hKG, hfr, hlo⟩ := hM
  have hdec := (hMK.dec he).1
  unfold ATk at kk ⊢
  rw [pcAt_succ he] at kk
  obtain ⟨⟨l, D, cy, b0, aS, aV⟩, p, ee, R, s, m, args, below, meth, c, Q⟩ := K
  subst hKG
  obtain ⟨hx, hb, hrt, hml, hown, hts, hlk, hWk⟩ := hMK.1
  obtain ⟨⟨g1, g2, g3, g4, g5, g6⟩, g7, g8⟩ := hi
  intro H locs ls hW hS hL hmx
  have hsp : ((As.reverse ++ aR (1000 + w) :: rest).map (cv b0 aS)) = (As.map (cv b0 aS)).reverse ++ .ref (aS w) :: rest.map (cv b0 aS) := by
    simp [cv, adw]
  rw [hsp]
  have hC2 : Met l y (.code y My.2.2.1 My.2.2.2.1 My.2.2.2.2 :: GW) (rmD d1 0 0) (va_Pc (.ref (aS w) :: As.map (cv b0 aS)) (fun U => Wd (l, D, cy, b0, aS, aV) F h U.heap ∧ Wk (l, D, cy, b0, aS, aV) U)) (QB (l, D, cy, b0, aS, aV) Qc) 0 0 (fun q : Nat => b0 ≤ q) := by
    have e : (aR (1000 + w) :: As).map (cv b0 aS) = .ref (aS w) :: As.map (cv b0 aS) := by simp [cv, adw]
    unfold CT at hC
    dsimp only at hC
    rw [e] at hC
    exact hC
  have hGi : GoodIn GW (wsV (clR M.1) idx y.cls y (.code y My.2.2.1 My.2.2.2.1 My.2.2.2.2 :: GW)) := goodIn_mem (by
    intro w hw
    unfold wsV at hw
    simp only [List.cons_append, List.nil_append, List.mem_cons] at hw
    rcases hw with rfl | rfl | rfl | rfl | rfl | hw
    · exact hlink
    · exact g7
    · exact g8
    · exact g2
    · exact g1
    · exact hw)
  have hrecv := vk_recv hWk.2.2.1.1 hw hS
  rw [hyc] at hrecv
  refine run_go (va_runV (As := As.map (cv b0 aS)) (rest := rest.map (cv b0 aS)) ⟨hx, hb, hml, hown, hts⟩ hC2 (cwV np hts hGi rfl rfl rfl ⟨rfl, g3, g4, g5⟩ ⟨by show d1 + 1 ≤ R.frames; exact Nat.le_trans hd hfr, by show 8 + (My.2.2.2.1 + 11) + 34 * d1 ≤ R.locals; have : 34 * d ≤ R.locals := hlo; omega⟩) ⟨pre_blind, hrecv, fun U hU hw => pre_at hU hw hW hS hWk⟩ rfl (by simpa using hnp) (hL.2.1.trans (hmx.symm.trans hml)) rfl (lv_room (by rw [catW_le]; exact hrest)) hdec hcs) hS fun r F' h' H1 locs1 hq hW1 hS1 => ?_
  exact kk r F' h' hq H1 locs1 ls hW1 hS1 hL hmx
end RU5
