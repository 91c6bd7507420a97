section RU3
variable {K : Kx} {F : Fx} {cs sl k : Nat} {M : Mx} {lv lv1 : List (Option AV)} {st s1 : List AV} {h h1 : Hp}
theorem setH_same (h : Hp) (a j : Nat) (z : Int) : setH h a j z a = fun i => if i = j then z else h a i := by
  funext i
  unfold setH
  simp
theorem A_ast {a n len kt : Nat} {i z z' : Int} {ins : Instr} (hM : MK K M) (he : M.2.1[k]? = some (ins, len, kt)) (hk : (ins = .iastore ∧ kd a = 14 ∧ z' = z) ∨ (ins = .bastore ∧ kd a = 13 ∧ z' = b8 z) ∨ (ins = .bastore ∧ kd a = 16 ∧ z' = z1 z)) (hn : ln a = n) (hF : F.1 = NF) (hlen : len = 1) (hi : inb i n) (kk : ATk K F cs sl M (k + 1) lv st (setH h a (w32 i).toNat z')) : ATk K F cs sl M k lv (aI z :: aI i :: aR a :: st) h := by
  subst hlen
  subst hn
  have hdec := (hM.dec he).1
  unfold ATk at kk ⊢
  rw [pcAt_succ he] at kk
  obtain ⟨⟨l, D, cy, b0, aS, aV⟩, p, ee, R, s, m, args, below, meth, c, Q⟩ := K
  obtain ⟨hx, hb, hrt, hml, hown, hts, hlk, hWk⟩ := hM.1
  intro H locs ls hW hS hL hmx
  have hNF : a < NF := kd_in (n := kd a) rfl (by rcases hk with ⟨-, h, -⟩ | ⟨-, h, -⟩ | ⟨-, h, -⟩ <;> omega)
  have hlt : a < 1000 := Nat.lt_trans hNF NF_lt
  have hF2 : a < F.1 := by rw [hF]; exact hNF
  show W p l ee R s m args below meth c H locs cs sl Q (F0 m _ ls (.int (Int32.ofInt z) :: .int (Int32.ofInt i) :: .ref (ad b0 aS a) :: _))
  rw [adlt hlt]
  have e9 : (Int32.ofInt i).toNatClampNeg = (w32 i).toNat := rfl
  have up : ∀ y : Int, upd (fun j => Int32.ofInt (h a j)) (w32 i).toNat (Int32.ofInt y) = fun j => Int32.ofInt (setH h a (w32 i).toNat y a j) := by
    intro y
    funext j
    rw [setH_same]
    unfold upd
    by_cases hj : j = (w32 i).toNat <;> simp [hj]
  rcases hk with ⟨rfl, hk, rfl⟩ | ⟨rfl, hk, rfl⟩ | ⟨rfl, hk, rfl⟩
  · refine va_iast (f := fun j => Int32.ofInt (h a j)) hx hb hWk.1 hW.1 WSl_D hS a 1 (by rw [WSl_get hF2, cellE_arr hk (Or.inr (Or.inl rfl))]) rfl (inb_vp hi) hdec fun H1 locs1 hP1 hD1 hS1 => ?_
    rw [e9, up] at hP1
    exact kk H1 locs1 ls (Wd_set hF2 (fun j hj => setH_ne hj) (cellE_arr hk (Or.inr (Or.inl rfl))) hW (fun q => absurd q (by rw [hF]; exact Nat.lt_irrefl _)) hP1) hS1 hL hmx
  · refine va_bast (f := fun j => Int32.ofInt (h a j)) hx hb hWk.1 hW.1 WSl_D hS a 0 (by rw [WSl_get hF2, cellE_arr hk (Or.inl rfl)]) rfl (inb_vp hi) hdec fun H1 locs1 hP1 hD1 hS1 => ?_
    rw [e9, nar_b, up] at hP1
    exact kk H1 locs1 ls (Wd_set hF2 (fun j hj => setH_ne hj) (cellE_arr hk (Or.inl rfl)) hW (fun q => absurd q (by rw [hF]; exact Nat.lt_irrefl _)) hP1) hS1 hL hmx
  · refine va_zast (f := fun j => Int32.ofInt (h a j)) hx hb hWk.1 hW.1 WSl_D hS a 3 (by rw [WSl_get hF2, cellE_arr hk (Or.inr (Or.inr rfl))]) rfl (inb_vp hi) hdec fun H1 locs1 hP1 hD1 hS1 => ?_
    rw [e9, nar_z, up] at hP1
    exact kk H1 locs1 ls (Wd_set hF2 (fun j hj => setH_ne hj) (cellE_arr hk (Or.inr (Or.inr rfl))) hW (fun q => absurd q (by rw [hF]; exact Nat.lt_irrefl _)) hP1) hS1 hL hmx
theorem A_last {a n len kt : Nat} {i z : Int} (hM : MK K M) (he : M.2.1[k]? = some (.lastore, len, kt)) (hk : kd a = 15) (hn : ln a = n) (hF : F.1 = NF) (hlen : len = 1) (hi : inb i n) (kk : ATk K F cs sl M (k + 1) lv st (setH h a (w32 i).toNat z)) : ATk K F cs sl M k lv (aL z :: aI i :: aR a :: st) h := by
  subst hlen
  subst hn
  have hdec := (hM.dec he).1
  unfold ATk at kk ⊢
  rw [pcAt_succ he] at kk
  obtain ⟨⟨l, D, cy, b0, aS, aV⟩, p, ee, R, s, m, args, below, meth, c, Q⟩ := K
  obtain ⟨hx, hb, hrt, hml, hown, hts, hlk, hWk⟩ := hM.1
  intro H locs ls hW hS hL hmx
  have hNF : a < NF := kd_in hk (by omega)
  have hlt : a < 1000 := Nat.lt_trans hNF NF_lt
  have hF2 : a < F.1 := by rw [hF]; exact hNF
  show W p l ee R s m args below meth c H locs cs sl Q (F0 m _ ls (.long (Int64.ofInt z) :: .int (Int32.ofInt i) :: .ref (ad b0 aS a) :: _))
  rw [adlt hlt]
  have e9 : (Int32.ofInt i).toNatClampNeg = (w32 i).toNat := rfl
  have up : vp_updL (fun j => Int64.ofInt (h a j)) (w32 i).toNat (Int64.ofInt z) = fun j => Int64.ofInt (setH h a (w32 i).toNat z a j) := by
    funext j
    rw [setH_same]
    unfold vp_updL
    by_cases hj : j = (w32 i).toNat <;> simp [hj]
  refine va_last (f := fun j => Int64.ofInt (h a j)) hx hb hWk.1 hW.1 WSl_D hS a 2 (by rw [WSl_get hF2, cellE_lng hk]) rfl (inb_vp hi) hdec fun H1 locs1 hP1 hD1 hS1 => ?_
  rw [e9, up] at hP1
  exact kk H1 locs1 ls (Wd_set hF2 (fun j hj => setH_ne hj) (cellE_lng hk) hW (fun q => absurd q (by rw [hF]; exact Nat.lt_irrefl _)) hP1) hS1 hL hmx
theorem i32_ne {y : Int} (h : w32 y ≠ 0) : ¬ Int32.ofInt y = 0 := fun q => h (by unfold w32; rw [q]; rfl)
theorem i64_ne {y : Int} (h : w64 y ≠ 0) : ¬ Int64.ofInt y = 0 := fun q => h (by unfold w64; rw [q]; rfl)
theorem A_idiv {len kt : Nat} {x y : Int} (hM : MK K M) (he : M.2.1[k]? = some (.idiv, len, kt)) (hlen : len = 1) (hi : w32 y ≠ 0) (kk : ATk K F cs sl M (k + 1) lv (aI (div32 x y) :: st) h) : ATk K F cs sl M k lv (aI y :: aI x :: st) h := by
  subst hlen
  have hdec := (hM.dec he).1
  unfold ATk at kk ⊢
  rw [pcAt_succ he] at kk
  obtain ⟨⟨l, D, cy, b0, aS, aV⟩, p, ee, R, s, m, args, below, meth, c, Q⟩ := K
  obtain ⟨hx, hb, hrt, hml, hown, hts, hlk, hWk⟩ := hM.1
  intro H locs ls hW hS hL hmx
  refine lv_idiv hx hb hdec (i32_ne hi) ?_
  rw [← i32_of (_ / _)]
  exact kk H locs ls hW hS hL hmx
theorem A_irem {len kt : Nat} {x y : Int} (hM : MK K M) (he : M.2.1[k]? = some (.irem, len, kt)) (hlen : len = 1) (hi : w32 y ≠ 0) (kk : ATk K F cs sl M (k + 1) lv (aI (rem32 x y) :: st) h) : ATk K F cs sl M k lv (aI y :: aI x :: st) h := by
  subst hlen
  have hdec := (hM.dec he).1
  unfold ATk at kk ⊢
  rw [pcAt_succ he] at kk
  obtain ⟨⟨l, D, cy, b0, aS, aV⟩, p, ee, R, s, m, args, below, meth, c, Q⟩ := K
  obtain ⟨hx, hb, hrt, hml, hown, hts, hlk, hWk⟩ := hM.1
  intro H locs ls hW hS hL hmx
  refine lv_irem hx hb hdec (i32_ne hi) ?_
  rw [← i32_of (_ - _)]
  exact kk H locs ls hW hS hL hmx
theorem A_ldiv {len kt : Nat} {x y : Int} (hM : MK K M) (he : M.2.1[k]? = some (.ldiv, len, kt)) (hlen : len = 1) (hi : w64 y ≠ 0) (kk : ATk K F cs sl M (k + 1) lv (aL (div64 x y) :: st) h) : ATk K F cs sl M k lv (aL y :: aL x :: st) h := by
  subst hlen
  have hdec := (hM.dec he).1
  unfold ATk at kk ⊢
  rw [pcAt_succ he] at kk
  obtain ⟨⟨l, D, cy, b0, aS, aV⟩, p, ee, R, s, m, args, below, meth, c, Q⟩ := K
  obtain ⟨hx, hb, hrt, hml, hown, hts, hlk, hWk⟩ := hM.1
  intro H locs ls hW hS hL hmx
  refine lv_ldiv hx hb hdec (i64_ne hi) ?_
  rw [← i64_of (_ / _)]
  exact kk H locs ls hW hS hL hmx
theorem A_lrem {len kt : Nat} {x y : Int} (hM : MK K M) (he : M.2.1[k]? = some (.lrem, len, kt)) (hlen : len = 1) (hi : w64 y ≠ 0) (kk : ATk K F cs sl M (k + 1) lv (aL (rem64 x y) :: st) h) : ATk K F cs sl M k lv (aL y :: aL x :: st) h := by
  subst hlen
  have hdec := (hM.dec he).1
  unfold ATk at kk ⊢
  rw [pcAt_succ he] at kk
  obtain ⟨⟨l, D, cy, b0, aS, aV⟩, p, ee, R, s, m, args, below, meth, c, Q⟩ := K
  obtain ⟨hx, hb, hrt, hml, hown, hts, hlk, hWk⟩ := hM.1
  intro H locs ls hW hS hL hmx
  refine lv_lrem hx hb hdec (i64_ne hi) ?_
  rw [← i64_of (_ - _)]
  exact kk H locs ls hW hS hL hmx
/-- a store into a boolean field, of a value that is one -/
theorem A_putz {a idx i0 ci j i9 len kt : Nat} {z : Int} (hM : MK K M) (he : M.2.1[k]? = some (.putfield idx, len, kt)) (hlen : len = 3) (hl : lkF M.1 idx = some (i0, ci, j, i9)) (ha : a < F.1) (hkd : kd a = ci) (hft : ft ci j = 3) (hfin : fin_ ci j = false) (hz : z = 0 ∨ z = 1) (kk : ATk K F cs sl M (k + 1) lv st (setH h a j z)) : ATk K F cs sl M k lv (aI z :: aR a :: st) h := by
  subst hlen
  have hdec := (hM.dec he).1
  unfold ATk at kk ⊢
  rw [pcAt_succ he] at kk
  obtain ⟨⟨l, D, cy, b0, aS, aV⟩, p, ee, R, s, m, args, below, meth, c, Q⟩ := K
  obtain ⟨hx, hb, hrt, hml, hown, hts, hlk, hWk⟩ := hM.1
  intro H locs ls hW hS hL hmx
  obtain ⟨hlk1, hj, hci⟩ := lk_spec (lk_lt hl) hl
  have hlt : a < 1000 := Nat.lt_trans (kd_in (n := kd a) rfl (by omega)) NF_lt
  show W p l ee R s m args below meth c H locs cs sl Q (F0 m _ ls (.int (Int32.ofInt z) :: .ref (ad b0 aS a) :: _))
  rw [adlt hlt]
  have hty := (cl_ft' hci hj).2.2 hft
  have hnar : narrow .boolean (.int (Int32.ofInt z)) = .int (Int32.ofInt z) := by rcases hz with rfl | rfl <;> rfl
  have hfits : fits .boolean (.int (Int32.ofInt z)) = true := by rcases hz with rfl | rfl <;> rfl
  refine put_row (v := .int (Int32.ofInt z)) hx hb hci hts hown hWk.1 hW.1 WSl_D hS a (by rw [WSl_get ha, cellE_obj (by omega), hkd]) hj hlk1 (Or.inl hfin) (by rw [hty]; exact hnar) (by rw [hty]; exact hfits) (by simpa using hj) hdec fun H1 locs1 hz1 hP1 hS1 => ?_
  exact kk H1 locs1 ls (Wd_set ha (fun i hi => setH_ne hi) ((obj_set hkd hci).trans (by simp [fv, hft, setH])) hW (fun _ => hz1) hP1) hS1 hL hmx
theorem A_wid {c2 s2 : Nat} (h1 : cs ≤ c2) (h2 : sl ≤ s2) (kk : ATk K F c2 s2 M k lv st h) : ATk K F cs sl M k lv st h := by
  obtain ⟨⟨l, D, cy, b0, aS, aV⟩, p, ee, R, s, m, args, below, meth, c, Q⟩ := K
  intro H locs ls hW hS hL hmx
  exact W.widen h1 h2 (kk H locs ls hW hS hL hmx)
end RU3
/-! THE END OF A METHOD, ITS CONTRACT, A CALL -/
def QB (G : Gx) (Qp : Option AV → Fx → Hp → Prop) : Array Value → State → Outcome → State → Prop := fun _ st oc t => match G with
  | (l, D, cy, b0, aS, aV) => (∃ (r : Option AV) (F' : Fx) (h' : Hp), oc = .returned (r.map (cv b0 aS)) ∧ Qp r F' h' ∧ Wd (l, D, cy, b0, aS, aV) F' h' t.heap ∧ Wk (l, D, cy, b0, aS, aV) t) ∧ va_F (fun q : Nat => b0 ≤ q) st t
/-- the walk of a method's body, with its end -/
abbrev K0 : Type := Gx × Program × Env × Room × State × MethodId × Array Value × List Frame × Method × Code
def KM (k0 : K0) (mc ms : Nat) (Qp : Option AV → Fx → Hp → Prop) : Kx := match k0 with
  | (G, p, e, R, s, m, args, below, meth, c) => (G, p, e, R, s, m, args, below, meth, c, MQ below (QB G Qp) args s mc ms (fun q : Nat => G.2.2.2.1 ≤ q))
theorem Wk.moved {G : Gx} {s t : State} {H : Heap} {locs : List Loc} (hW : s.WarmedH t.vm) (ht : t.heap = H) (hS : va_S (fun q : Nat => G.2.2.2.1 ≤ q) s.heap H locs) (h : Wk G s) : Wk G t := by
  obtain ⟨l, D, cy, b0, aS, aV⟩ := G
  obtain ⟨h1, h2, ⟨h3, h4, h6, h7, h8⟩, h5⟩ := h
  refine ⟨va_K.moved hW.alike h1, fun w hw => ?_, ⟨vk_S.kept (vk_S.moved hW.alike h3) (fun a ha hn => by rw [ht]; exact hS.2.1 a ha hn), fun j hj => (h4 j hj).warm hW, h6, va_Z.kept (va_Z.moved hW.alike h7) (fun a ha hn => by rw [ht]; exact hS.2.1 a ha hn), h8.moved hW.alike⟩, by rw [ht]; exact Nat.le_trans h5 hS.1⟩
  obtain ⟨a, i, x, z, rfl⟩ := NW_nest hw
  exact va_Nw.warmM hW (h2 _ hw)
theorem Wk.same {G : Gx} {s t : State} (hv : s.vm = t.vm) (hh : t.heap = s.heap) (h : Wk G s) : Wk G t := by
  obtain ⟨l, D, cy, b0, aS, aV⟩ := G
  obtain ⟨h1, h2, ⟨h3, h4, h6, h7, h8⟩, h5⟩ := h
  have al : s.vm.Alike t.vm := by rw [hv]; exact Vm.Alike.refl _
  refine ⟨va_K.moved al h1, fun w hw => ?_, ⟨?_, fun j hj => (h4 j hj).same hv.symm, h6, ?_, h8.moved al⟩, by rw [hh]; exact h5⟩
  · obtain ⟨a, i, x, z, rfl⟩ := NW_nest hw
    exact va_Nw.same rfl hv (h2 _ hw)
  · rw [hh]
    exact vk_S.moved al h3
  · rw [hh]
    exact va_Z.moved al h7
section END_
variable {k0 : K0} {F : Fx} {mc ms k : Nat} {M : Mx} {lv : List (Option AV)} {h : Hp} {Qp : Option AV → Fx → Hp → Prop}
theorem QB_of {l : Launch} {D : va_G} {cy : Nat → ClassId} {b0 : Nat} {aS aV : Nat → Nat} {args : Array Value} {s t : State} {H : Heap} {locs : List Loc} {r : Option AV} (ht : t.heap = H) (hW : s.WarmedH t.vm) (hWd : Wd (l, D, cy, b0, aS, aV) F h H) (hS : va_S (fun q : Nat => b0 ≤ q) s.heap H locs) (hWk : Wk (l, D, cy, b0, aS, aV) s) (hq : Qp r F h) : QB (l, D, cy, b0, aS, aV) Qp args s (.returned (r.map (cv b0 aS))) t :=
  ⟨⟨r, F, h, rfl, hq, by rw [ht]; exact hWd, hWk.moved (G := (l, D, cy, b0, aS, aV)) hW ht hS⟩, hS.F ht⟩
theorem A_reti {z : Int} {len kt : Nat} (hM : MK (KM k0 mc ms Qp) M) (he : M.2.1[k]? = some (.ireturn, len, kt)) (hlen : len = 1) (hr : M.2.2.2.2 = some .int) (hq : Qp (some (aI z)) F h) : ATk (KM k0 mc ms Qp) F mc ms M k lv [aI z] h := by
  subst hlen
  have hdec := (hM.dec he).1
  obtain ⟨⟨l, D, cy, b0, aS, aV⟩, p, ee, R, s, m, args, below, meth, c⟩ := k0
  obtain ⟨hx, hb, hrt, hml, hown, hts, hlk, hWk⟩ := hM.1
  intro H locs ls hW hS hL hmx
  exact W.iret hx hb (hrt.trans hr) (fun t ht hw => QB_of (r := some (aI z)) ht hw hW hS hWk hq) hS.2.2 hdec hlk
theorem A_retz {z : Int} {len kt : Nat} (hM : MK (KM k0 mc ms Qp) M) (he : M.2.1[k]? = some (.ireturn, len, kt)) (hlen : len = 1) (hr : M.2.2.2.2 = some .boolean) (hz : z = 0 ∨ z = 1) (hq : Qp (some (aI z)) F h) : ATk (KM k0 mc ms Qp) F mc ms M k lv [aI z] h := by
  subst hlen
  have hdec := (hM.dec he).1
  obtain ⟨⟨l, D, cy, b0, aS, aV⟩, p, ee, R, s, m, args, below, meth, c⟩ := k0
  obtain ⟨hx, hb, hrt, hml, hown, hts, hlk, hWk⟩ := hM.1
  intro H locs ls hW hS hL hmx
  exact W.zret hx hb (hrt.trans hr) (by rcases hz with rfl | rfl <;> rfl) (fun t ht hw => QB_of (r := some (aI z)) ht hw hW hS hWk hq) hS.2.2 hdec hlk
theorem A_retb {z : Int} {len kt : Nat} (hM : MK (KM k0 mc ms Qp) M) (he : M.2.1[k]? = some (.ireturn, len, kt)) (hlen : len = 1) (hr : M.2.2.2.2 = some .byte) (hz : z = 0 ∨ z = 1) (hq : Qp (some (aI z)) F h) : ATk (KM k0 mc ms Qp) F mc ms M k lv [aI z] h := by
  subst hlen
  have hdec := (hM.dec he).1
  obtain ⟨⟨l, D, cy, b0, aS, aV⟩, p, ee, R, s, m, args, below, meth, c⟩ := k0
  obtain ⟨hx, hb, hrt, hml, hown, hts, hlk, hWk⟩ := hM.1
  intro H locs ls hW hS hL hmx
  exact W.zret hx hb (hrt.trans hr) (by rcases hz with rfl | rfl <;> rfl) (fun t ht hw => QB_of (r := some (aI z)) ht hw hW hS hWk hq) hS.2.2 hdec hlk
theorem A_retl {z : Int} {len kt : Nat} (hM : MK (KM k0 mc ms Qp) M) (he : M.2.1[k]? = some (.lreturn, len, kt)) (hlen : len = 1) (hr : M.2.2.2.2 = some .long) (hq : Qp (some (aL z)) F h) : ATk (KM k0 mc ms Qp) F mc ms M k lv [aL z] h := by
  subst hlen
  have hdec := (hM.dec he).1
  obtain ⟨⟨l, D, cy, b0, aS, aV⟩, p, ee, R, s, m, args, below, meth, c⟩ := k0
  obtain ⟨hx, hb, hrt, hml, hown, hts, hlk, hWk⟩ := hM.1
  intro H locs ls hW hS hL hmx
  exact W.lret hx hb (hrt.trans hr) (fun t ht hw => QB_of (r := some (aL z)) ht hw hW hS hWk hq) hS.2.2 hdec hlk
theorem A_reta {q : Option Nat} {len kt : Nat} {cn : String} (hM : MK (KM k0 mc ms Qp) M) (he : M.2.1[k]? = some (.areturn, len, kt)) (hlen : len = 1) (hr : M.2.2.2.2 = some (.object cn)) (hq : Qp (some (aO q)) F h) : ATk (KM k0 mc ms Qp) F mc ms M k lv [aO q] h := by
  subst hlen
  have hdec := (hM.dec he).1
  obtain ⟨⟨l, D, cy, b0, aS, aV⟩, p, ee, R, s, m, args, below, meth, c⟩ := k0
  obtain ⟨hx, hb, hrt, hml, hown, hts, hlk, hWk⟩ := hM.1
  intro H locs ls hW hS hL hmx
  exact W.aret (v := cv b0 aS (aO q)) hx hb (hrt.trans hr) (Or.inl ⟨cn, rfl⟩) (by cases q <;> simp [cv]) (fun t ht hw => QB_of (r := some (aO q)) ht hw hW hS hWk hq) hS.2.2 hdec hlk
theorem A_retv {len kt : Nat} (hM : MK (KM k0 mc ms Qp) M) (he : M.2.1[k]? = some (.return_, len, kt)) (hlen : len = 1) (hr : M.2.2.2.2 = none) (hq : Qp none F h) : ATk (KM k0 mc ms Qp) F mc ms M k lv [] h := by
  subst hlen
  have hdec := (hM.dec he).1
  obtain ⟨⟨l, D, cy, b0, aS, aV⟩, p, ee, R, s, m, args, below, meth, c⟩ := k0
  obtain ⟨hx, hb, hrt, hml, hown, hts, hlk, hWk⟩ := hM.1
  intro H locs ls hW hS hL hmx
  exact W.vret hx hb (hrt.trans hr) (fun t ht hw => QB_of (r := none) ht hw hW hS hWk hq) hS.2.2 hdec hlk
end END_
