def SwG (v : Int) (P : Nat → Prop) : List (Int × Nat) → Nat → Prop
  | [], kd => P kd
  | e :: r, kd => (v = e.1 → P e.2) ∧ (¬ v = e.1 → SwG v P r kd)
def lkS : List (Int × Nat) → Nat → Int → Nat
  | [], kd, _ => kd
  | e :: r, kd, v => if v = e.1 then e.2 else lkS r kd v
theorem SwG_to {v : Int} {P : Nat → Prop} : ∀ {f : List (Int × Nat)} {kd : Nat}, SwG v P f kd → P (lkS f kd v)
  | [], _, h => h
  | e :: r, kd, h => by
    unfold lkS
    split
    · rename_i q; exact h.1 q
    · rename_i q; exact SwG_to (h.2 q)
theorem lkS_out {v lo hi : Int} : ∀ {f : List (Int × Nat)} {kd : Nat}, f.all (fun e => decide (lo ≤ e.1 ∧ e.1 ≤ hi)) = true → (v < lo ∨ hi < v) → lkS f kd v = kd
  | [], _, _, _ => rfl
  | e :: r, kd, h, hv => by
    simp only [List.all_cons, Bool.and_eq_true, decide_eq_true_eq] at h
    unfold lkS
    rw [if_neg (by omega)]
    exact lkS_out h.2 hv
/-- the rows of a tableswitch against a list of cases -/
def okT (tab : List IT) (k : Nat) (f : List (Int × Nat)) (kd : Nat) : Bool := match tab[k]? with
  | some (.tableswitch d lo hi offs, _, _) => decide ((pcAt tab k : Int) + d = (pcAt tab kd : Int)) && f.all (fun e => decide (lo ≤ e.1 ∧ e.1 ≤ hi)) && decide ((offs.size : Int) = hi - lo + 1) && (List.range offs.size).all (fun j => decide ((pcAt tab k : Int) + offs.getD j 0 = (pcAt tab (lkS f kd (lo + j)) : Int)))
  | _ => false
def okL (pc : Int) (tab : List IT) : List (Int × Int) → List (Int × Nat) → Int → Nat → Bool
  | [], [], d, kd => decide (pc + d = (pcAt tab kd : Int))
  | a :: r, b :: s, d, kd => decide (a.1 = b.1) && decide (pc + a.2 = (pcAt tab b.2 : Int)) && okL pc tab r s d kd
  | _, _, _, _ => false
theorem okL_at {pc : Int} {tab : List IT} {v : Int} : ∀ {ps : List (Int × Int)} {f : List (Int × Nat)} {d : Int} {kd : Nat}, okL pc tab ps f d kd = true → pc + Op.lookupswitch.offset ps d v = (pcAt tab (lkS f kd v) : Int)
  | [], [], d, kd, h => by simpa [okL, lkS, Op.lookupswitch.offset] using h
  | a :: r, b :: s, d, kd, h => by
    simp only [okL, Bool.and_eq_true, decide_eq_true_eq] at h
    obtain ⟨⟨h1, h2⟩, h3⟩ := h
    obtain ⟨a1, a2⟩ := a
    rw [Op.lookupswitch.offset_cons]
    unfold lkS
    by_cases q : v = b.1
    · rw [if_pos q, if_pos (by omega)]; exact h2
    · rw [if_neg q, if_neg (by omega)]; exact okL_at h3
  | [], b :: s, d, kd, h => by simp [okL] at h
  | a :: r, [], d, kd, h => by simp [okL] at h
def okLS (tab : List IT) (k : Nat) (f : List (Int × Nat)) (kd : Nat) : Bool := match tab[k]? with
  | some (.lookupswitch d ps, _, _) => okL (pcAt tab k : Int) tab ps.toList f d kd && (ps.toList.zip (ps.toList.drop 1)).all (fun (a, next) => a.1 < next.1)
  | _ => false
section RU5
variable {K : Kx} {G : Gx} {F : Fx} {cs sl k d : Nat} {M : Mx} {lv lv1 : List (Option AV)} {st s1 : List AV} {h h1 : Hp}
theorem A_tsw {dflt lo hi x : Int} {offs : Array Int} {len kt : Nat} (hM : MK K M) (he : M.2.1[k]? = some (.tableswitch dflt lo hi offs, len, kt)) (f : List (Int × Nat)) (kd : Nat) (hok : okT M.2.1 k f kd = true) (kk : SwG (w32 x) (fun j => ATk K F cs sl M j lv st h) f kd) : ATk K F cs sl M k lv (aI x :: st) h := by
  have hdec := (hM.dec he).1
  have k1 := SwG_to kk
  unfold okT at hok
  rw [he] at hok
  simp only [Bool.and_eq_true, decide_eq_true_eq] at hok
  obtain ⟨⟨⟨h1, h2⟩, h3⟩, h4⟩ := hok
  obtain ⟨⟨l, D, cy, b0, aS, aV⟩, p, ee, R, s, m, args, below, meth, c, Q⟩ := K
  obtain ⟨hx, hb, hrt, hml, hown, hts, hlk, hWk⟩ := hM.1
  intro H locs ls hW hS hL hmx
  have e0 : (Int32.ofInt x).toInt = w32 x := rfl
  by_cases hr : w32 x < lo ∨ hi < w32 x
  · rw [lkS_out h2 hr] at k1
    exact lv_tableOut hx hb hdec hr h1 (k1 H locs ls hW hS hL hmx)
  · have hlt : (w32 x - lo).toNat < offs.size := by omega
    have h5 := List.all_eq_true.mp h4 _ (List.mem_range.mpr hlt)
    simp only [decide_eq_true_eq] at h5
    rw [show lo + ((w32 x - lo).toNat : Int) = w32 x by omega] at h5
    have h6 : offs[(w32 x - lo).toNat]? = some (offs.getD (w32 x - lo).toNat 0) := by
      rw [Array.getD_eq_getD_getElem?, Array.getElem?_eq_getElem hlt]; rfl
    exact lv_tableIn hx hb hdec (by rw [e0]; omega) (by rw [e0]; omega) (by rw [e0]; exact h6) h5 (k1 H locs ls hW hS hL hmx)
theorem A_lsw {dflt x : Int} {ps : Array (Int × Int)} {len kt : Nat} (hM : MK K M) (he : M.2.1[k]? = some (.lookupswitch dflt ps, len, kt)) (f : List (Int × Nat)) (kd : Nat) (hok : okLS M.2.1 k f kd = true) (kk : SwG (w32 x) (fun j => ATk K F cs sl M j lv st h) f kd) : ATk K F cs sl M k lv (aI x :: st) h := by
  have hdec := (hM.dec he).1
  have k1 := SwG_to kk
  unfold okLS at hok
  rw [he] at hok
  simp only [Bool.and_eq_true] at hok
  obtain ⟨h1, h2⟩ := hok
  have h3 := okL_at (v := w32 x) h1
  obtain ⟨⟨l, D, cy, b0, aS, aV⟩, p, ee, R, s, m, args, below, meth, c, Q⟩ := K
  obtain ⟨hx, hb, hrt, hml, hown, hts, hlk, hWk⟩ := hM.1
  intro H locs ls hW hS hL hmx
  exact lv_lookup hx hb hdec h2 rfl h3 (k1 H locs ls hW hS hL hmx)
theorem A_gl {a idx i0 ci j i9 len kt : Nat} (hM : MK K M) (he : M.2.1[k]? = some (.getfield idx, len, kt)) (hlen : len = 3) (hl : lkF M.1 idx = some (i0, ci, j, i9)) (hkd : kd a = ci) (ha : a < F.1) (hft : ft ci j = 1) (kk : ATk K F cs sl M (k + 1) lv (aL (h a j) :: st) h) : ATk K F cs sl M k lv (aR a :: st) h := by
  subst hlen
  refine A_blk hM 1 (lv1 := lv) (s1 := aL (h a j) :: st) (h1 := h) ?_ kk
  have hci := (lk_spec (lk_lt hl) hl).2.2
  have hlt : a < 1000 := Nat.lt_trans (kd_in hkd (by omega)) NF_lt
  rw [List.drop_eq_getElem?_toList_append, he]
  simp only [Option.toList, List.cons_append, sxl, sx1, if_true, sxGet, hl, ha, hlt, hkd, and_self, if_true]
  simp [hft]
theorem A_gr {a x idx i0 ci j i9 len kt : Nat} (hM : MK K M) (he : M.2.1[k]? = some (.getfield idx, len, kt)) (hlen : len = 3) (hl : lkF M.1 idx = some (i0, ci, j, i9)) (hkd : kd a = ci) (ha : a < F.1) (hx : x < 1000) (hr : F.2 a j = some x) (hft : ft ci j = 2) (kk : ATk K F cs sl M (k + 1) lv (aR x :: st) h) : ATk K F cs sl M k lv (aR a :: st) h := by
  subst hlen
  refine A_blk hM 1 (lv1 := lv) (s1 := aR x :: st) (h1 := h) ?_ kk
  have hci := (lk_spec (lk_lt hl) hl).2.2
  have hlt : a < 1000 := Nat.lt_trans (kd_in hkd (by omega)) NF_lt
  rw [List.drop_eq_getElem?_toList_append, he]
  simp only [Option.toList, List.cons_append, sxl, sx1, if_true, sxGet, hl, ha, hlt, hkd, and_self, if_true]
  simp [hft, hr, hx]
theorem A_pi {a idx i0 ci j i9 len kt : Nat} {z : Int} (hM : MK K M) (he : M.2.1[k]? = some (.putfield idx, len, kt)) (hlen : len = 3) (hl : lkF M.1 idx = some (i0, ci, j, i9)) (hkd : kd a = ci) (ha : a < F.1) (hft : ft ci j = 0) (hfin : fin_ ci j = false) (kk : ATk K F cs sl M (k + 1) lv st (setH h a j z)) : ATk K F cs sl M k lv (aI z :: aR a :: st) h := by
  subst hlen
  refine A_blk hM 1 (lv1 := lv) (s1 := st) (h1 := setH h a j z) ?_ kk
  have hci := (lk_spec (lk_lt hl) hl).2.2
  have hlt : a < 1000 := Nat.lt_trans (kd_in hkd (by omega)) NF_lt
  rw [List.drop_eq_getElem?_toList_append, he]
  simp only [Option.toList, List.cons_append, sxl, sx1, if_true, sxPut, hl]
  simp [ha, hlt, hkd, hft, hfin]
theorem A_pl {a idx i0 ci j i9 len kt : Nat} {z : Int} (hM : MK K M) (he : M.2.1[k]? = some (.putfield idx, len, kt)) (hlen : len = 3) (hl : lkF M.1 idx = some (i0, ci, j, i9)) (hkd : kd a = ci) (ha : a < F.1) (hft : ft ci j = 1) (hfin : fin_ ci j = false) (kk : ATk K F cs sl M (k + 1) lv st (setH h a j z)) : ATk K F cs sl M k lv (aL z :: aR a :: st) h := by
  subst hlen
  refine A_blk hM 1 (lv1 := lv) (s1 := st) (h1 := setH h a j z) ?_ kk
  have hci := (lk_spec (lk_lt hl) hl).2.2
  have hlt : a < 1000 := Nat.lt_trans (kd_in hkd (by omega)) NF_lt
  rw [List.drop_eq_getElem?_toList_append, he]
  simp only [Option.toList, List.cons_append, sxl, sx1, if_true, sxPut, hl]
  simp [ha, hlt, hkd, hft, hfin]
/-- a text's constant -/
theorem A_ldcs {idx len kt j : Nat} {o idx2 i : Nat} {tx : String} (hM : MK K M) (he : M.2.1[k]? = some (.ldc idx, len, kt)) (hlen : len = 2) (hj : j < 10) (hs : srL.getD j (0, 0, "", 0) = (o, idx2, tx, i)) (hoi : (o = M.1 ∧ idx2 = idx : Bool) = true) (kk : ATk K F cs sl M (k + 1) lv (aR (1000 + j) :: st) h) : ATk K F cs sl M k lv st h := by
  subst hlen
  have hdec := (hM.dec he).1
  unfold ATk at kk ⊢
  rw [pcAt_succ he] at kk
  simp only [Bool.decide_and, Bool.and_eq_true, decide_eq_true_eq] at hoi
  obtain ⟨rfl, rfl⟩ := hoi
  obtain ⟨⟨l, D, cy, b0, aS, aV⟩, p, ee, R, s, m, args, below, meth, c, Q⟩ := K
  obtain ⟨hx, hb, hrt, hml, hown, hts, hlk, hWk⟩ := hM.1
  intro H locs ls hW hS hL hmx
  have hz := hWk.2.2.1.2 j hj
  rw [hs] at hz
  have k1 := kk H locs ls hW hS hL hmx
  have e1 : cv b0 aS (aR (1000 + j)) = .ref (aS j) := by
    show Value.ref (ad b0 aS (1000 + j)) = _
    unfold ad
    rw [if_neg (by omega), show 1000 + j - 1000 = j by omega]
  rw [List.map_cons, e1] at k1
  exact va_ldcS hx hb hown hz hdec k1
/-- System.arraycopy of whole rows of ints -/
theorem A_copy {a b n len kt idx : Nat} (hM : MK K M) (he : M.2.1[k]? = some (.invokestatic idx, len, kt)) (hlen : len = 3) (hlink : .methodLink (clR M.1) idx arraycopyName ∈ GW) (hka : kd a = 14) (hkb : kd b = 14) (hna : ln a = n) (hnb : ln b = n) (haF : a < F.1) (hbF : b < F.1) (hF : F.1 = NF) (hn : n ≤ 1000) (hst : catW st ≤ 8) (hR : (1 ≤ K.2.2.2.1.frames ∧ 100 ≤ K.2.2.2.1.locals)) (kk : ATk K F cs sl M (k + 1) lv st (cpyH h a b n)) : ATk K F cs sl M k lv (aI (n : Int) :: aI 0 :: aR b :: aI 0 :: aR a :: st) h := by
  sorry
theorem A_idx {j idx len kt : Nat} {c : Int} (hM : MB K G M d) (hj : j < 10) (he : M.2.1[k]? = some (.invokevirtual idx, len, kt)) (hlen : len = 3) (hlink : .methodLink (clR M.1) idx yJ0_indexOf_0f7a4 ∈ GW) (hd : 10 ≤ d) (hst : catW st ≤ 8) (kk : ATk K F cs sl M (k + 1) lv (aI (sIx j c) :: st) h) : ATk K F cs sl M k lv (aI c :: aR (1000 + j) :: st) h := by
  sorry
end RU5
