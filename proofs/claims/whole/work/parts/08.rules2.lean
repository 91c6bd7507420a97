section RU2
variable {K : Kx} {F : Fx} {cs sl k : Nat} {M : Mx} {lv lv1 : List (Option AV)} {st s1 : List AV} {h h1 : Hp}
theorem A_icmp {op : Jvm.ClassFile.Cond} {kt len : Nat} {d x y : Int} (hM : MK K M) (he : M.2.1[k]? = some (.if_icmp op d, len, kt)) (hlen : len = 3) (ht : cmpP op (w32 x) (w32 y) → ATk K F cs sl M kt lv st h) (hf : ¬ cmpP op (w32 x) (w32 y) → ATk K F cs sl M (k + 1) lv st h) : ATk K F cs sl M k lv (aI y :: aI x :: st) h := by
  subst hlen
  obtain ⟨hdec, hoff⟩ := hM.dec he
  have hg := hoff d rfl
  have hn := pcAt_succ he
  unfold ATk at hf ⊢
  rw [hn] at hf
  obtain ⟨⟨l, D, cy, b0, aS, aV⟩, p, ee, R, s, m, args, below, meth, c, Q⟩ := K
  obtain ⟨hx, hb, hrt, hml, hown, hts, hlk, hWk⟩ := hM.1
  intro H locs ls hW hS hL hmx
  cases op with
  | eq => exact lv_icmp_eq hx hb hdec hg (fun q => ht (w32_eq.mp q) H locs ls hW hS hL hmx) (fun q => hf (fun z => q (w32_eq.mpr z)) H locs ls hW hS hL hmx)
  | ne => exact lv_icmp_ne hx hb hdec hg (fun q => ht (fun z => q (w32_eq.mpr z)) H locs ls hW hS hL hmx) (fun q => hf (fun z => z (w32_eq.mp q)) H locs ls hW hS hL hmx)
  | lt => exact lv_icmp_lt hx hb hdec hg (fun q => ht (w32_lt.mp q) H locs ls hW hS hL hmx) (fun q => hf (fun z => q (w32_lt.mpr z)) H locs ls hW hS hL hmx)
  | ge => exact lv_icmp_ge hx hb hdec hg (fun q => ht (w32_le.mp q) H locs ls hW hS hL hmx) (fun q => hf (fun z => q (w32_le.mpr z)) H locs ls hW hS hL hmx)
  | gt => exact lv_icmp_gt hx hb hdec hg (fun q => ht (w32_lt.mp q) H locs ls hW hS hL hmx) (fun q => hf (fun z => q (w32_lt.mpr z)) H locs ls hW hS hL hmx)
  | le => exact lv_icmp_le hx hb hdec hg (fun q => ht (w32_le.mp q) H locs ls hW hS hL hmx) (fun q => hf (fun z => q (w32_le.mpr z)) H locs ls hW hS hL hmx)
theorem i32_0 : Int32.ofInt 0 = 0 := rfl
theorem A_ifc {op : Jvm.ClassFile.Cond} {kt len : Nat} {d x : Int} (hM : MK K M) (he : M.2.1[k]? = some (.ifCond op d, len, kt)) (hlen : len = 3) (ht : cmpP op (w32 x) 0 → ATk K F cs sl M kt lv st h) (hf : ¬ cmpP op (w32 x) 0 → ATk K F cs sl M (k + 1) lv st h) : ATk K F cs sl M k lv (aI x :: st) h := by
  subst hlen
  obtain ⟨hdec, hoff⟩ := hM.dec he
  have hg := hoff d rfl
  have hn := pcAt_succ he
  unfold ATk at hf ⊢
  rw [hn] at hf
  rw [← w32_0] at ht hf
  obtain ⟨⟨l, D, cy, b0, aS, aV⟩, p, ee, R, s, m, args, below, meth, c, Q⟩ := K
  obtain ⟨hx, hb, hrt, hml, hown, hts, hlk, hWk⟩ := hM.1
  intro H locs ls hW hS hL hmx
  cases op with
  | eq => exact lv_if_eq hx hb hdec hg (fun q => ht (w32_eq.mp (q.trans i32_0.symm)) H locs ls hW hS hL hmx) (fun q => hf (fun z => q ((w32_eq.mpr z).trans i32_0)) H locs ls hW hS hL hmx)
  | ne => exact lv_if_ne hx hb hdec hg (fun q => ht (fun z => q ((w32_eq.mpr z).trans i32_0)) H locs ls hW hS hL hmx) (fun q => hf (fun z => z (w32_eq.mp (q.trans i32_0.symm))) H locs ls hW hS hL hmx)
  | lt => exact lv_if_lt hx hb hdec hg (fun q => ht (w32_lt.mp q) H locs ls hW hS hL hmx) (fun q => hf (fun z => q (w32_lt.mpr z)) H locs ls hW hS hL hmx)
  | ge => exact lv_if_ge hx hb hdec hg (fun q => ht (w32_le.mp q) H locs ls hW hS hL hmx) (fun q => hf (fun z => q (w32_le.mpr z)) H locs ls hW hS hL hmx)
  | gt => exact lv_if_gt hx hb hdec hg (fun q => ht (w32_lt.mp q) H locs ls hW hS hL hmx) (fun q => hf (fun z => q (w32_lt.mpr z)) H locs ls hW hS hL hmx)
  | le => exact lv_if_le hx hb hdec hg (fun q => ht (w32_le.mp q) H locs ls hW hS hL hmx) (fun q => hf (fun z => q (w32_le.mpr z)) H locs ls hW hS hL hmx)
theorem A_ifnullT {kt len : Nat} {d : Int} (hM : MK K M) (he : M.2.1[k]? = some (.ifnull d, len, kt)) (hlen : len = 3) (ht : ATk K F cs sl M kt lv st h) : ATk K F cs sl M k lv (aN :: st) h := by
  subst hlen
  obtain ⟨hdec, hoff⟩ := hM.dec he
  have hg := hoff d rfl
  obtain ⟨⟨l, D, cy, b0, aS, aV⟩, p, ee, R, s, m, args, below, meth, c, Q⟩ := K
  obtain ⟨hx, hb, hrt, hml, hown, hts, hlk, hWk⟩ := hM.1
  intro H locs ls hW hS hL hmx
  exact lv_ifnullN hx hb hdec hg (ht H locs ls hW hS hL hmx)
theorem A_ifnullF {a kt len : Nat} {d : Int} (hM : MK K M) (he : M.2.1[k]? = some (.ifnull d, len, kt)) (hlen : len = 3) (hf : ATk K F cs sl M (k + 1) lv st h) : ATk K F cs sl M k lv (aR a :: st) h := by
  subst hlen
  obtain ⟨hdec, hoff⟩ := hM.dec he
  have hn := pcAt_succ he
  unfold ATk at hf ⊢
  rw [hn] at hf
  obtain ⟨⟨l, D, cy, b0, aS, aV⟩, p, ee, R, s, m, args, below, meth, c, Q⟩ := K
  obtain ⟨hx, hb, hrt, hml, hown, hts, hlk, hWk⟩ := hM.1
  intro H locs ls hW hS hL hmx
  exact lv_ifnull hx hb hdec (hf H locs ls hW hS hL hmx)
theorem A_ifnonnullF {kt len : Nat} {d : Int} (hM : MK K M) (he : M.2.1[k]? = some (.ifnonnull d, len, kt)) (hlen : len = 3) (hf : ATk K F cs sl M (k + 1) lv st h) : ATk K F cs sl M k lv (aN :: st) h := by
  subst hlen
  obtain ⟨hdec, hoff⟩ := hM.dec he
  have hn := pcAt_succ he
  unfold ATk at hf ⊢
  rw [hn] at hf
  obtain ⟨⟨l, D, cy, b0, aS, aV⟩, p, ee, R, s, m, args, below, meth, c, Q⟩ := K
  obtain ⟨hx, hb, hrt, hml, hown, hts, hlk, hWk⟩ := hM.1
  intro H locs ls hW hS hL hmx
  exact lv_ifnonnullN hx hb hdec (hf H locs ls hW hS hL hmx)
theorem A_ifnonnullT {a kt len : Nat} {d : Int} (hM : MK K M) (he : M.2.1[k]? = some (.ifnonnull d, len, kt)) (hlen : len = 3) (ht : ATk K F cs sl M kt lv st h) : ATk K F cs sl M k lv (aR a :: st) h := by
  subst hlen
  obtain ⟨hdec, hoff⟩ := hM.dec he
  have hg := hoff d rfl
  obtain ⟨⟨l, D, cy, b0, aS, aV⟩, p, ee, R, s, m, args, below, meth, c, Q⟩ := K
  obtain ⟨hx, hb, hrt, hml, hown, hts, hlk, hWk⟩ := hM.1
  intro H locs ls hW hS hL hmx
  exact lv_ifnonnull hx hb hdec hg (ht H locs ls hW hS hL hmx)
/-- an index within -/
abbrev inb (i : Int) (n : Nat) : Prop := 0 ≤ w32 i ∧ w32 i < n
theorem inb_vp {i : Int} {n : Nat} (h : inb i n) : vp_in (Int32.ofInt i) n := by
  obtain ⟨h1, h2⟩ := h
  intro q
  rcases q with q | q
  · have := Int32.lt_iff_toInt_lt.mp q
    rw [Int32.toInt_zero] at this
    unfold w32 at h1
    omega
  · have e : (Int32.ofInt i).toNatClampNeg = (w32 i).toNat := rfl
    rw [e] at q
    omega
theorem adlt {b0 a : Nat} {aS : Nat → Nat} (h : a < 1000) : ad b0 aS a = b0 + a := by unfold ad; rw [if_pos h]
theorem kd_in {a n : Nat} (h : kd a = n) (hn : n < 18) : a < NF := by
  unfold kd at h
  by_cases q : a < NF
  · exact q
  · rw [List.getD_eq_getElem?_getD, List.getElem?_eq_none (by show shT.length ≤ a; have : shT.length = NF := by decide +kernel
                                                              omega)] at h
    simp at h; omega
theorem NF_lt : NF < 1000 := by decide
theorem cellE_arr {cy : Nat → ClassId} {b0 k n : Nat} {r : Nat → Option Nat} {g : Nat → Int} (hk : kd k = n) (h1 : n = 13 ∨ n = 14 ∨ n = 16) : cellE cy b0 k r g = .inl (cy n, ln k, .inl (fun i => Int32.ofInt (g i))) := by
  unfold cellE
  rw [if_neg (by omega), if_neg (by omega), if_neg (by omega), hk]
theorem cellE_lng {cy : Nat → ClassId} {b0 k : Nat} {r : Nat → Option Nat} {g : Nat → Int} (hk : kd k = 15) : cellE cy b0 k r g = .inl (cy 15, ln k, .inr (.inl (fun i => Int64.ofInt (g i)))) := by
  unfold cellE
  rw [if_neg (by omega), if_pos hk]
theorem cellE_txt {cy : Nat → ClassId} {b0 k : Nat} {r : Nat → Option Nat} {g : Nat → Int} (hk : kd k = 17) : cellE cy b0 k r g = .inl (cy 17, ln k, .inr (.inr (.inr (.inr (fun i => (r i).map (b0 + ·)))))) := by
  unfold cellE
  rw [if_neg (by omega), if_neg (by omega), if_pos hk]
theorem A_ald {a n len kt : Nat} {i : Int} {ins : Instr} (hM : MK K M) (he : M.2.1[k]? = some (ins, len, kt)) (hk : (ins = .iaload ∧ kd a = 14) ∨ (ins = .baload ∧ (kd a = 13 ∨ kd a = 16))) (hn : ln a = n) (hF : a < F.1) (hlen : len = 1) (hi : inb i n) (kk : ATk K F cs sl M (k + 1) lv (aI (h a (w32 i).toNat) :: st) h) : ATk K F cs sl M k lv (aI i :: aR a :: st) h := by
  subst hlen
  subst hn
  have hdec := (hM.dec he).1
  unfold ATk at kk ⊢
  rw [pcAt_succ he] at kk
  obtain ⟨⟨l, D, cy, b0, aS, aV⟩, p, ee, R, s, m, args, below, meth, c, Q⟩ := K
  obtain ⟨hx, hb, hrt, hml, hown, hts, hlk, hWk⟩ := hM.1
  intro H locs ls hW hS hL hmx
  have hlt : a < 1000 := Nat.lt_trans (kd_in (n := kd a) rfl (by rcases hk with h | ⟨-, h | h⟩ <;> omega)) NF_lt
  show W p l ee R s m args below meth c H locs cs sl Q (F0 m _ ls (.int (Int32.ofInt i) :: .ref (ad b0 aS a) :: _))
  rw [adlt hlt]
  have k1 := kk H locs ls hW hS hL hmx
  rcases hk with ⟨rfl, hk⟩ | ⟨rfl, hk | hk⟩
  · exact va_iald (f := fun j => Int32.ofInt (h a j)) hx hb hWk.1 hW.1 a 1 (by rw [WSl_get hF, cellE_arr hk (Or.inr (Or.inl rfl))]) rfl (inb_vp hi) hdec k1
  · exact va_bald (f := fun j => Int32.ofInt (h a j)) hx hb hWk.1 hW.1 a 0 (by rw [WSl_get hF, cellE_arr hk (Or.inl rfl)]) rfl (inb_vp hi) hdec k1
  · exact va_zald (f := fun j => Int32.ofInt (h a j)) hx hb hWk.1 hW.1 a 3 (by rw [WSl_get hF, cellE_arr hk (Or.inr (Or.inr rfl))]) rfl (inb_vp hi) hdec k1
theorem A_lald {a n len kt : Nat} {i : Int} (hM : MK K M) (he : M.2.1[k]? = some (.laload, len, kt)) (hk : kd a = 15) (hn : ln a = n) (hF : a < F.1) (hlen : len = 1) (hi : inb i n) (kk : ATk K F cs sl M (k + 1) lv (aL (h a (w32 i).toNat) :: st) h) : ATk K F cs sl M k lv (aI i :: aR a :: st) h := by
  subst hlen
  subst hn
  have hdec := (hM.dec he).1
  unfold ATk at kk ⊢
  rw [pcAt_succ he] at kk
  obtain ⟨⟨l, D, cy, b0, aS, aV⟩, p, ee, R, s, m, args, below, meth, c, Q⟩ := K
  obtain ⟨hx, hb, hrt, hml, hown, hts, hlk, hWk⟩ := hM.1
  intro H locs ls hW hS hL hmx
  have hlt : a < 1000 := Nat.lt_trans (kd_in hk (by omega)) NF_lt
  show W p l ee R s m args below meth c H locs cs sl Q (F0 m _ ls (.int (Int32.ofInt i) :: .ref (ad b0 aS a) :: _))
  rw [adlt hlt]
  have k1 := kk H locs ls hW hS hL hmx
  exact va_lald (f := fun j => Int64.ofInt (h a j)) hx hb hWk.1 hW.1 a 2 (by rw [WSl_get hF, cellE_lng hk]) rfl (inb_vp hi) hdec k1
/-- an entry of a row of texts -/
theorem A_aald {a n len kt : Nat} {i : Int} {q : Option Nat} (hM : MK K M) (he : M.2.1[k]? = some (.aaload, len, kt)) (hk : kd a = 17) (hn : ln a = n) (hF : a < F.1) (hlen : len = 1) (hi : inb i n) (hq : F.2 a (w32 i).toNat = q) (hq1 : ∀ x, q = some x → x < 1000) (kk : ATk K F cs sl M (k + 1) lv (aO q :: st) h) : ATk K F cs sl M k lv (aI i :: aR a :: st) h := by
  subst hlen
  subst hn
  have hdec := (hM.dec he).1
  unfold ATk at kk ⊢
  rw [pcAt_succ he] at kk
  obtain ⟨⟨l, D, cy, b0, aS, aV⟩, p, ee, R, s, m, args, below, meth, c, Q⟩ := K
  obtain ⟨hx, hb, hrt, hml, hown, hts, hlk, hWk⟩ := hM.1
  intro H locs ls hW hS hL hmx
  have hlt : a < 1000 := Nat.lt_trans (kd_in hk (by omega)) NF_lt
  show W p l ee R s m args below meth c H locs cs sl Q (F0 m _ ls (.int (Int32.ofInt i) :: .ref (ad b0 aS a) :: _))
  rw [adlt hlt]
  have k1 := kk H locs ls hW hS hL hmx
  refine va_aldq hx hb hWk.1 hW.1 a 4 (by rw [WSl_get hF, cellE_txt hk]) rfl (inb_vp hi) hdec ?_
  have e : (Int32.ofInt i).toNatClampNeg = (w32 i).toNat := rfl
  rw [e]
  have e2 : va_rf (((F.2 a (w32 i).toNat)).map (b0 + ·)) = cv b0 aS (aO q) := by
    rw [hq]
    cases q with
    | none => rfl
    | some x => show Value.ref _ = Value.ref _; rw [adlt (hq1 x rfl)]
  show W p l ee R s m args below meth c H locs cs sl Q (F0 m _ ls (va_rf (((F.2 a (w32 i).toNat)).map (b0 + ·)) :: _))
  rw [e2]
  exact k1
theorem A_alen {a n len kt : Nat} (hM : MK K M) (he : M.2.1[k]? = some (.arraylength, len, kt)) (hk : kd a = 14 ∨ kd a = 13 ∨ kd a = 16 ∨ kd a = 17) (hn : ln a = n) (hF : a < F.1) (hlen : len = 1) (kk : ATk K F cs sl M (k + 1) lv (aI n :: st) h) : ATk K F cs sl M k lv (aR a :: st) h := by
  subst hlen
  subst hn
  have hdec := (hM.dec he).1
  unfold ATk at kk ⊢
  rw [pcAt_succ he] at kk
  obtain ⟨⟨l, D, cy, b0, aS, aV⟩, p, ee, R, s, m, args, below, meth, c, Q⟩ := K
  obtain ⟨hx, hb, hrt, hml, hown, hts, hlk, hWk⟩ := hM.1
  intro H locs ls hW hS hL hmx
  have hlt : a < 1000 := Nat.lt_trans (kd_in (n := kd a) rfl (by omega)) NF_lt
  show W p l ee R s m args below meth c H locs cs sl Q (F0 m _ ls (.ref (ad b0 aS a) :: _))
  rw [adlt hlt]
  have k1 := kk H locs ls hW hS hL hmx
  rcases hk with hk | hk | hk | hk
  · exact va_alen (x := (ln a, .inl (fun j => Int32.ofInt (h a j)))) hx hb hWk.1 hW.1 a 1 (by rw [WSl_get hF, cellE_arr hk (Or.inr (Or.inl rfl))]) rfl rfl hdec k1
  · exact va_alen (x := (ln a, .inl (fun j => Int32.ofInt (h a j)))) hx hb hWk.1 hW.1 a 0 (by rw [WSl_get hF, cellE_arr hk (Or.inl rfl)]) rfl rfl hdec k1
  · exact va_alen (x := (ln a, .inl (fun j => Int32.ofInt (h a j)))) hx hb hWk.1 hW.1 a 3 (by rw [WSl_get hF, cellE_arr hk (Or.inr (Or.inr rfl))]) rfl rfl hdec k1
  · exact va_alen (x := (ln a, .inr (.inr (.inr (.inr (fun i => (F.2 a i).map (b0 + ·))))))) hx hb hWk.1 hW.1 a 4 (by rw [WSl_get hF, cellE_txt hk]) rfl rfl hdec k1
def z1 (z : Int) : Int := (Int32.ofInt z &&& 1).toInt
theorem nar_z (z : Int) : vp_nar .boolean (Int32.ofInt z) = Int32.ofInt (z1 z) := by
  unfold z1
  rw [i32_of]
  rfl
theorem nar_b (z : Int) : vp_nar .byte (Int32.ofInt z) = Int32.ofInt (b8 z) := by
  unfold b8
  rw [i32_of]
  rfl
end RU2
