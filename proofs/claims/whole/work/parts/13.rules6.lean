/-- the references in the order in which they are laid: cell, place, cell -/
def evL : List (Nat × Nat × Nat) := [(1, 0, 2), (0, 0, 1), (3, 1, 4), (3, 2, 5), (3, 4, 6), (3, 5, 7), (3, 6, 8), (3, 7, 9), (3, 8, 10), (3, 10, 11), (3, 12, 12), (3, 13, 13), (3, 14, 14), (3, 15, 15), (3, 16, 16), (3, 17, 17), (0, 1, 3), (19, 2, 20), (19, 3, 21), (19, 4, 22), (19, 5, 23), (19, 6, 24), (19, 7, 25), (19, 8, 26), (18, 1, 19), (18, 0, 1), (0, 2, 18), (0, 3, 27), (28, 2, 29), (28, 3, 30), (28, 4, 31), (28, 5, 32), (28, 6, 33), (28, 7, 34), (28, 8, 35), (0, 4, 28), (36, 2, 37), (36, 3, 38), (36, 4, 39), (36, 5, 40), (36, 6, 41), (36, 7, 42), (36, 8, 43), (0, 5, 36), (44, 2, 45), (44, 3, 46), (44, 4, 47), (44, 5, 48), (44, 6, 49), (44, 7, 50), (44, 8, 51), (0, 6, 44), (0, 7, 52), (53, 1, 54), (53, 2, 55), (53, 3, 56), (53, 4, 57), (53, 5, 58), (53, 6, 59), (53, 7, 60), (53, 0, 3), (0, 8, 53), (61, 0, 3), (61, 1, 52), (62, 2, 63), (62, 0, 3), (62, 1, 53), (61, 2, 62), (64, 2, 65), (64, 0, 3), (64, 1, 53), (61, 3, 64), (0, 9, 61), (66, 3, 67), (66, 4, 68), (66, 6, 69), (66, 7, 70), (66, 8, 71), (66, 9, 72), (66, 10, 73), (66, 11, 74), (66, 12, 75), (66, 13, 76), (66, 0, 3), (66, 1, 28), (0, 10, 66), (77, 2, 78), (77, 8, 79), (77, 9, 80), (77, 0, 3), (77, 1, 36), (0, 11, 77), (81, 2, 82), (81, 3, 83), (81, 4, 84), (81, 0, 3), (0, 12, 81), (0, 13, 85), (86, 2, 87), (86, 3, 88), (86, 4, 89), (86, 5, 90), (86, 6, 91), (86, 7, 92), (86, 8, 93), (27, 0, 86), (94, 2, 95), (94, 3, 96), (94, 4, 97), (94, 5, 98), (94, 6, 99), (94, 7, 100), (94, 8, 101), (27, 1, 94), (102, 2, 103), (102, 3, 104), (102, 4, 105), (102, 5, 106), (102, 6, 107), (102, 7, 108), (102, 8, 109), (27, 2, 102), (110, 2, 111), (110, 3, 112), (110, 4, 113), (110, 5, 114), (110, 6, 115), (110, 7, 116), (110, 8, 117), (27, 3, 110), (118, 2, 119), (118, 3, 120), (118, 4, 121), (118, 5, 122), (118, 6, 123), (118, 7, 124), (118, 8, 125), (27, 4, 118), (126, 2, 127), (126, 3, 128), (126, 4, 129), (126, 5, 130), (126, 6, 131), (126, 7, 132), (126, 8, 133), (27, 5, 126), (134, 2, 135), (134, 3, 136), (134, 4, 137), (134, 5, 138), (134, 6, 139), (134, 7, 140), (134, 8, 141), (27, 6, 134), (142, 2, 143), (142, 3, 144), (142, 4, 145), (142, 5, 146), (142, 6, 147), (142, 7, 148), (142, 8, 149), (27, 7, 142), (150, 0, 151), (150, 7, 152), (150, 8, 153), (150, 9, 154), (150, 10, 155), (150, 11, 156), (150, 12, 157), (150, 13, 158), (150, 14, 159), (150, 15, 160), (150, 16, 161), (150, 17, 162), (150, 18, 163), (150, 19, 164), (150, 20, 165), (150, 21, 166), (150, 22, 167), (150, 23, 168), (150, 24, 169), (150, 25, 170), (150, 26, 171), (150, 27, 172), (150, 28, 173), (150, 29, 174), (150, 30, 175), (150, 31, 176), (150, 32, 177), (150, 33, 178), (150, 43, 179), (150, 58, 180), (150, 59, 181), (150, 60, 182), (150, 64, 183), (150, 65, 184), (150, 66, 185), (150, 73, 186), (150, 76, 187), (150, 77, 188), (150, 79, 189), (150, 80, 190), (150, 81, 191), (150, 82, 192), (150, 83, 193), (150, 86, 194), (150, 87, 195), (150, 89, 196), (150, 90, 197), (150, 91, 198)]
theorem gw_ai : .arrayClass .int ∈ GW := mem_GW 166 (by decide +kernel) rfl
theorem gw_ab : .arrayClass .byte ∈ GW := mem_GW 901 (by decide +kernel) rfl
theorem gw_az : .arrayClass .boolean ∈ GW := mem_GW 337 (by decide +kernel) rfl
theorem gw_al : .arrayClass .long ∈ GW := mem_GW 1873 (by decide +kernel) rfl
theorem gw_oi : .instanceMethod objectInit ∈ GW := mem_GW 151 (by decide +kernel) rfl
theorem gw_oc : .code objectInit ⟨#[0xb1]⟩ 1 none ∈ GW := mem_GW 152 (by decide +kernel) rfl
/-! CONSTRUCTORS: cells that are made, references that are laid -/
def rfS (t a j : Nat) : Option Nat := ((evL.take t).reverse.find? (fun e => e.1 == a && e.2.1 == j)).map (fun e => e.2.2)
theorem rfS_put {t a j v : Nat} (h : evL[t]? = some (a, j, v)) (b i : Nat) : rfS (t + 1) b i = if b = a ∧ i = j then some v else rfS t b i := by
  unfold rfS
  rw [List.take_succ, h]
  simp only [Option.toList, List.reverse_append, List.reverse_cons, List.reverse_nil, List.nil_append, List.cons_append, List.find?_cons]
  by_cases e : b = a ∧ i = j
  · obtain ⟨rfl, rfl⟩ := e
    simp
  · rw [if_neg e]
    have : (a == b && j == i) = false := by
      by_cases h1 : a = b
      · by_cases h2 : j = i
        · exact absurd ⟨h1.symm, h2.symm⟩ e
        · simp [h2]
      · simp [h1]
    rw [this]
theorem rfS_none {t n : Nat} (h : (evL.take t).all (fun e => !(e.1 == n)) = true) (j : Nat) : rfS t n j = none := by
  unfold rfS
  rw [Option.map_eq_none_iff, List.find?_eq_none]
  intro e he
  have := List.all_eq_true.mp h e (List.mem_reverse.mp he)
  simp only [Bool.not_eq_true', beq_eq_false_iff_ne, ne_eq] at this
  simp [this]
def dfV (f : Nat) : Value := match f with
  | 0 => .int 0
  | 1 => .long 0
  | 2 => .null
  | _ => .int 0
def isRefT (t : FieldType) : Bool := match t with
  | .object _ => true
  | .array _ => true
  | _ => false
def dfB (t : FieldType) (f : Nat) : Bool := match f with
  | 0 => match t with | .int => true | .byte => true | _ => false
  | 1 => match t with | .long => true | _ => false
  | 2 => isRefT t
  | _ => match t with | .boolean => true | _ => false
theorem dfB_all : (List.range 13).all (fun ci => (List.range (clN ci)).all (fun j => dfB (clY ci j) (ft ci j))) = true := by decide +kernel
theorem dfB_at {ci j : Nat} (h : ci < 13) (hj : j < clN ci) : dfB (clY ci j) (ft ci j) = true := List.all_eq_true.mp (List.all_eq_true.mp dfB_all ci (List.mem_range.mpr h)) j (List.mem_range.mpr hj)
theorem dfV_at {ci j : Nat} (h : ci < 13) (hj : j < clN ci) : defaultValue (clY ci j) = dfV (ft ci j) := by
  have := dfB_at h hj
  revert this
  generalize clY ci j = t
  generalize ft ci j = f
  intro q
  match f, q with
  | 0, q => cases t <;> first | rfl | cases q
  | 1, q => cases t <;> first | rfl | cases q
  | 2, q => cases t <;> first | rfl | cases q
  | _ + 3, q => cases t <;> first | rfl | cases q
theorem isRef_of {ci j : Nat} (h : ci < 13) (hj : j < clN ci) (hf : ft ci j = 2) (a : Addr) : narrow (clY ci j) (.ref a) = .ref a ∧ fits (clY ci j) (.ref a) = true := by
  have := dfB_at h hj
  rw [hf] at this
  revert this
  generalize clY ci j = t
  intro q
  cases t <;> first | exact ⟨rfl, rfl⟩ | cases q
section RU6
variable {K : Kx} {rf : Nat → Nat → Option Nat} {cs sl k n : Nat} {M : Mx} {lv : List (Option AV)} {st : List AV} {h : Hp}
theorem A_newo {idx len kt ci : Nat} (hM : MK K M) (he : M.2.1[k]? = some (.new idx, len, kt)) (hlen : len = 3) (hlink : .classLink (clR M.1) idx (clR ci) ∈ GW) (hinst : .instantiable (clR ci) (clN ci) ∈ GW) (hini : .initialized (clR ci) ∈ GW) (hkd : kd n = ci) (hci : ci < 13) (hn : n < NF) (hr : ∀ j, rf n j = none) (hz : ∀ j, h n j = 0) (hcs : cs + 1 ≤ K.2.2.2.1.cells ∧ sl + clN ci ≤ K.2.2.2.1.slots)
    (kk : ATk K (n + 1, rf) (cs + 1) (sl + clN ci) M (k + 1) lv (aR n :: st) h) : ATk K (n, rf) cs sl M k lv st h := by
  subst hlen
  have hdec := (hM.dec he).1
  unfold ATk at kk ⊢
  rw [pcAt_succ he] at kk
  obtain ⟨⟨l, D, cy, b0, aS, aV⟩, p, ee, R, s, m, args, below, meth, c, Q⟩ := K
  obtain ⟨hx, hb, hrt, hml, hown, hts, hlk, hWk⟩ := hM.1
  intro H locs ls hW hS hL hmx
  have hsz : H.size = b0 + n := hW.2 hn
  have hc := cl_vw ci hci
  have hKn := hWk.1.1 ci _ hc
  have hb0 : b0 ≤ s.heap.size := hWk.2.2.2
  refine W.newcK hx hb hown (hts _ hlink) (hts _ hinst) (hts _ hini) rfl hdec hcs.1 hcs.2 hKn.2.1 hsz fun H1 kC hkC e1 z1 o1 => ?_
  have hk : ∀ (k : Nat) (x : Nat × va_E), (WSl cy b0 n rf h)[k]? = some x → H1[x.1]? = H[x.1]? := fun k x hx => o1 x.1 (by rw [← hsz]; exact (hW.1 k x hx).lt)
  have hp : WSl cy b0 n rf h ++ [(b0 + n, .inr (ci, (List.range (clN ci)).map (fv b0 (rf n) (h n) ci)))] = WSl cy b0 (n + 1) rf h := by
    refine WSl_push ?_ (fun _ _ => rfl) (fun _ _ => rfl)
    unfold cellE
    rw [hkd, if_pos hci]
  have hP1 : va_P D vwCl (WSl cy b0 (n + 1) rf h) H1 := by
    rw [← hp]
    refine (hW.1.kept hk).app (fun k x hx => ?_)
    have hz1 : k < 1 := (List.getElem?_eq_some_iff.mp hx).1
    rw [show k = 0 by omega] at hx
    cases hx
    refine ⟨_, hc, (u_born (clY ci) hts (cl_in ci hci) hKn hkC e1 (cl_ty ci hci)).to fun j hj => ?_⟩
    rw [dfV_at hci hj]
    unfold vp_V
    rw [List.getD_eq_getElem?_getD, fv_get hj]
    unfold fv dfV
    rw [hr j, hz j]
    generalize ft ci j = f
    match f with
    | 0 => rfl
    | 1 => rfl
    | 2 => rfl
    | _ + 3 => rfl
  have e0 : (aR n :: st).map (cv b0 aS) = .ref (b0 + n) :: st.map (cv b0 aS) := by
    simp [cv, adlt (aS := aS) (b0 := b0) (Nat.lt_trans hn NF_lt)]
  have k1 := kk H1 locs ls ⟨hP1, fun _ => by show H1.size = b0 + (n + 1); omega⟩ ⟨Nat.le_trans hS.1 (by omega), fun x h1 h2 => (o1 x (by rw [← hsz]; exact Nat.lt_of_lt_of_le h1 hS.1)).trans (hS.2.1 x h1 h2), hS.2.2⟩ hL hmx
  rw [e0] at k1
  exact k1
theorem arr_id {s : State} {cy : Nat → ClassId} {D : va_G} (hK : va_K D vwCl (tysL cy) s) {q k0 : Nat} {ty : FieldType} (ht : (tysL cy)[q]? = some (cy k0, ty)) {cA : ClassId} (hN : s.vm.findClass ("[" ++ ty.toString) = some cA) : cA = cy k0 := by
  have h := (hK.2 q _ ht).2
  have h2 : s.vm.findClass ("[" ++ ty.toString) = some (cy k0) := by
    cases ty with
    | object C =>
      obtain ⟨kA, comp, -, -, -, h4⟩ := h
      exact h4
    | _ => exact h
  exact Option.some.inj (hN.symm.trans h2)
/-- an array is made: what its cell is -/
theorem A_newa {atype : ArrayType} {ty : FieldType} {len kt q L : Nat} {z : Int} (hM : MK K M) (he : M.2.1[k]? = some (.newarray atype, len, kt)) (hlen : len = 2) (hty : newarray.typeOf atype = ty) (harr : .arrayClass ty ∈ GW) (hq : ∀ cy : Nat → ClassId, (tysL cy)[q]? = some (cy (kd n), ty)) (hdef : ∀ (cy : Nat → ClassId) (b0 : Nat) (g : Nat → Int), (∀ j, g j = 0) → ∃ a0 : vp_A, cellE cy b0 n (rf n) g = .inl (cy (kd n), a0) ∧ vp_cell (cy (kd n)) a0 = arrV (cy (kd n)) L (fun _ => defaultValue ty)) (hn : n < NF) (hz : ∀ j, h n j = 0) (hL0 : z = (L : Int)) (hL1 : L < 1000000) (hbt : componentBytes ty ≤ 8) (hcs : cs + 1 ≤ K.2.2.2.1.cells ∧ sl + L ≤ K.2.2.2.1.slots)
    (kk : ATk K (n + 1, rf) (cs + 1) (sl + L) M (k + 1) lv (aR n :: st) h) : ATk K (n, rf) cs sl M k lv (aI z :: st) h := by
  subst hlen
  subst hL0
  have hdec := (hM.dec he).1
  unfold ATk at kk ⊢
  rw [pcAt_succ he] at kk
  obtain ⟨⟨l, D, cy, b0, aS, aV⟩, p, ee, R, s, m, args, below, meth, c, Q⟩ := K
  obtain ⟨hx, hb, hrt, hml, hown, hts, hlk, hWk⟩ := hM.1
  intro H locs ls hW hS hL hmx
  have hsz : H.size = b0 + n := hW.2 hn
  have hb0 : b0 ≤ s.heap.size := hWk.2.2.2
  have hv : (Int32.ofInt (L : Int)).toInt = (L : Int) := by
    exact Int32.toInt_ofInt_of_le (by omega) (by omega)
  have hneg : ¬ Int32.ofInt (L : Int) < 0 := by
    rw [Int32.lt_iff_toInt_lt, hv]
    show ¬ (L : Int) < 0
    omega
  have hNat : (Int32.ofInt (L : Int)).toNatClampNeg = L := by
    show (Int32.ofInt (L : Int)).toInt.toNat = L
    rw [hv]
    rfl
  subst hty
  refine va_newaK (N := L) hx hb (hts _ harr) rfl hdec rfl hneg hNat (Nat.le_trans (Nat.mul_le_mul (Nat.le_of_lt hL1) hbt) (by decide)) hcs.1 hcs.2 hsz fun H1 cA e1 z1 o1 hAr hNm => ?_
  have hid : cA = cy (kd n) := arr_id hWk.1 (hq cy) hNm
  subst hid
  have hk : ∀ (k : Nat) (x : Nat × va_E), (WSl cy b0 n rf h)[k]? = some x → H1[x.1]? = H[x.1]? := fun k x hx => o1 x.1 (by rw [← hsz]; exact (hW.1 k x hx).lt)
  obtain ⟨a0, ha0, hc0⟩ := hdef cy b0 (h n) hz
  have hp : WSl cy b0 n rf h ++ [(b0 + n, .inl (cy (kd n), a0))] = WSl cy b0 (n + 1) rf h := WSl_push ha0 (fun _ _ => rfl) (fun _ _ => rfl)
  have hP1 : va_P D vwCl (WSl cy b0 (n + 1) rf h) H1 := by
    rw [← hp]
    refine (hW.1.kept hk).app (fun k x hx => ?_)
    have hz1 : k < 1 := (List.getElem?_eq_some_iff.mp hx).1
    rw [show k = 0 by omega] at hx
    cases hx
    show H1[b0 + n]? = some (vp_cell _ _)
    rw [hc0]
    exact e1
  have e0 : (aR n :: st).map (cv b0 aS) = .ref (b0 + n) :: st.map (cv b0 aS) := by
    simp [cv, adlt (aS := aS) (b0 := b0) (Nat.lt_trans hn NF_lt)]
  have k1 := kk H1 locs ls ⟨hP1, fun _ => by show H1.size = b0 + (n + 1); omega⟩ ⟨Nat.le_trans hS.1 (by omega), fun x h1 h2 => (o1 x (by rw [← hsz]; exact Nat.lt_of_lt_of_le h1 hS.1)).trans (hS.2.1 x h1 h2), hS.2.2⟩ hL hmx
  rw [e0] at k1
  exact k1
theorem def_i {cy : Nat → ClassId} {b0 a L : Nat} {r : Nat → Option Nat} {g : Nat → Int} {ty : FieldType} (h1 : (kd a < 13) = False) (h2 : (kd a = 15) = False) (h3 : (kd a = 17) = False) (hL : ln a = L) (ht : defaultValue ty = .int 0) (hz : ∀ j, g j = 0) : ∃ a0 : vp_A, cellE cy b0 a r g = .inl (cy (kd a), a0) ∧ vp_cell (cy (kd a)) a0 = arrV (cy (kd a)) L (fun _ => defaultValue ty) := by
  refine ⟨(L, .inl (fun i => Int32.ofInt (g i))), ?_, ?_⟩
  · unfold cellE
    simp only [h1, h2, h3, if_false, hL]
  · rw [vp_cell_i, ht]
    congr 1
    funext j
    rw [hz j]
    rfl
theorem def_l {cy : Nat → ClassId} {b0 a L : Nat} {r : Nat → Option Nat} {g : Nat → Int} (h2 : kd a = 15) (hL : ln a = L) (hz : ∀ j, g j = 0) : ∃ a0 : vp_A, cellE cy b0 a r g = .inl (cy (kd a), a0) ∧ vp_cell (cy (kd a)) a0 = arrV (cy (kd a)) L (fun _ => defaultValue .long) := by
  refine ⟨(L, .inr (.inl (fun i => Int64.ofInt (g i)))), ?_, ?_⟩
  · unfold cellE
    rw [h2, hL]
    rfl
  · rw [vp_cell_l]
    congr 1
    funext j
    rw [hz j]
    rfl
theorem A_newi {len kt L : Nat} {z : Int} (hM : MK K M) (he : M.2.1[k]? = some (.newarray .int, len, kt)) (hlen : len = 2) (hkd : kd n = 14) (hln : ln n = L) (hn : n < NF) (hz : ∀ j, h n j = 0) (hL0 : z = (L : Int)) (hL1 : L < 1000000) (hcs : cs + 1 ≤ K.2.2.2.1.cells ∧ sl + L ≤ K.2.2.2.1.slots)
    (kk : ATk K (n + 1, rf) (cs + 1) (sl + L) M (k + 1) lv (aR n :: st) h) : ATk K (n, rf) cs sl M k lv (aI z :: st) h :=
  A_newa (ty := .int) (q := 1) hM he hlen rfl gw_ai (fun cy => by rw [hkd]; rfl) (fun cy b0 g hg => def_i (by rw [hkd]; simp) (by rw [hkd]; simp) (by rw [hkd]; simp) hln rfl hg) hn hz hL0 hL1 (by decide) hcs kk
theorem A_newb {len kt L : Nat} {z : Int} (hM : MK K M) (he : M.2.1[k]? = some (.newarray .byte, len, kt)) (hlen : len = 2) (hkd : kd n = 13) (hln : ln n = L) (hn : n < NF) (hz : ∀ j, h n j = 0) (hL0 : z = (L : Int)) (hL1 : L < 1000000) (hcs : cs + 1 ≤ K.2.2.2.1.cells ∧ sl + L ≤ K.2.2.2.1.slots)
    (kk : ATk K (n + 1, rf) (cs + 1) (sl + L) M (k + 1) lv (aR n :: st) h) : ATk K (n, rf) cs sl M k lv (aI z :: st) h :=
  A_newa (ty := .byte) (q := 0) hM he hlen rfl gw_ab (fun cy => by rw [hkd]; rfl) (fun cy b0 g hg => def_i (by rw [hkd]; simp) (by rw [hkd]; simp) (by rw [hkd]; simp) hln rfl hg) hn hz hL0 hL1 (by decide) hcs kk
theorem A_newz {len kt L : Nat} {z : Int} (hM : MK K M) (he : M.2.1[k]? = some (.newarray .boolean, len, kt)) (hlen : len = 2) (hkd : kd n = 16) (hln : ln n = L) (hn : n < NF) (hz : ∀ j, h n j = 0) (hL0 : z = (L : Int)) (hL1 : L < 1000000) (hcs : cs + 1 ≤ K.2.2.2.1.cells ∧ sl + L ≤ K.2.2.2.1.slots)
    (kk : ATk K (n + 1, rf) (cs + 1) (sl + L) M (k + 1) lv (aR n :: st) h) : ATk K (n, rf) cs sl M k lv (aI z :: st) h :=
  A_newa (ty := .boolean) (q := 3) hM he hlen rfl gw_az (fun cy => by rw [hkd]; rfl) (fun cy b0 g hg => def_i (by rw [hkd]; simp) (by rw [hkd]; simp) (by rw [hkd]; simp) hln rfl hg) hn hz hL0 hL1 (by decide) hcs kk
theorem A_newl {len kt L : Nat} {z : Int} (hM : MK K M) (he : M.2.1[k]? = some (.newarray .long, len, kt)) (hlen : len = 2) (hkd : kd n = 15) (hln : ln n = L) (hn : n < NF) (hz : ∀ j, h n j = 0) (hL0 : z = (L : Int)) (hL1 : L < 1000000) (hcs : cs + 1 ≤ K.2.2.2.1.cells ∧ sl + L ≤ K.2.2.2.1.slots)
    (kk : ATk K (n + 1, rf) (cs + 1) (sl + L) M (k + 1) lv (aR n :: st) h) : ATk K (n, rf) cs sl M k lv (aI z :: st) h :=
  A_newa (ty := .long) (q := 2) hM he hlen rfl gw_al (fun cy => by rw [hkd]; rfl) (fun cy b0 g hg => def_l hkd hln hg) hn hz hL0 hL1 (by decide) hcs kk
theorem A_newt {idx len kt L : Nat} {z : Int} (hM : MK K M) (he : M.2.1[k]? = some (.anewarray idx, len, kt)) (hlen : len = 3) (hlink : .classLink (clR M.1) idx RX10 ∈ GW) (hkd : kd n = 17) (hln : ln n = L) (hn : n < NF) (hr : ∀ j, rf n j = none) (hL0 : z = (L : Int)) (hL1 : L < 1000000) (hcs : cs + 1 ≤ K.2.2.2.1.cells ∧ sl + L ≤ K.2.2.2.1.slots)
    (kk : ATk K (n + 1, rf) (cs + 1) (sl + L) M (k + 1) lv (aR n :: st) h) : ATk K (n, rf) cs sl M k lv (aI z :: st) h := by
  subst hlen
  subst hL0
  have hdec := (hM.dec he).1
  unfold ATk at kk ⊢
  rw [pcAt_succ he] at kk
  obtain ⟨⟨l, D, cy, b0, aS, aV⟩, p, ee, R, s, m, args, below, meth, c, Q⟩ := K
  obtain ⟨hx, hb, hrt, hml, hown, hts, hlk, hWk⟩ := hM.1
  intro H locs ls hW hS hL hmx
  have hsz : H.size = b0 + n := hW.2 hn
  have hb0 : b0 ≤ s.heap.size := hWk.2.2.2
  have hv : (Int32.ofInt (L : Int)).toInt = (L : Int) := by
    exact Int32.toInt_ofInt_of_le (by omega) (by omega)
  have hneg : ¬ Int32.ofInt (L : Int) < 0 := by
    rw [Int32.lt_iff_toInt_lt, hv]
    show ¬ (L : Int) < 0
    omega
  have hNat : (Int32.ofInt (L : Int)).toNatClampNeg = L := by
    show (Int32.ofInt (L : Int)).toInt.toNat = L
    rw [hv]
    rfl
  refine W.anew hx hb hown (hts _ hlink) (va_AO.use hWk.2.2.1.2.2.2.2) rfl hdec rfl hneg (by rw [hNat]; omega) hcs.1 (by rw [hNat]; exact hcs.2) fun cA kA comp f1 f2 f3 f4 => ?_
  rw [hNat]
  generalize hH1 : H.push ({ cls := cA, slots := Array.replicate L .null, vm := .none } : Cell) = H1
  have z1 : H1.size = H.size + 1 := by rw [← hH1, Array.size_push]
  have e1 : H1[H.size]? = some (arrV cA L (fun _ => .null)) := by rw [← hH1, Array.getElem?_push_size, ← arrV_new]
  have o1 : ∀ q : Nat, q < H.size → H1[q]? = H[q]? := fun q hq => by rw [← hH1, Array.getElem?_push, if_neg (Nat.ne_of_lt hq)]
  have hid : cA = cy 17 := arr_id (q := 4) hWk.1 rfl f1
  subst hid
  have hk : ∀ (k : Nat) (x : Nat × va_E), (WSl cy b0 n rf h)[k]? = some x → H1[x.1]? = H[x.1]? := fun k x hx => o1 x.1 ((hW.1 k x hx).lt)
  have hp : WSl cy b0 n rf h ++ [(b0 + n, .inl (cy 17, L, .inr (.inr (.inr (.inr (fun i => (rf n i).map (b0 + ·)))))))] = WSl cy b0 (n + 1) rf h := by
    refine WSl_push ?_ (fun _ _ => rfl) (fun _ _ => rfl)
    unfold cellE
    simp [hkd, hln]
  have hP1 : va_P D vwCl (WSl cy b0 (n + 1) rf h) H1 := by
    rw [← hp]
    refine (hW.1.kept hk).app (fun k x hx => ?_)
    have hz1 : k < 1 := (List.getElem?_eq_some_iff.mp hx).1
    rw [show k = 0 by omega] at hx
    cases hx
    show H1[b0 + n]? = some (vp_cell _ _)
    rw [vp_cell_q, ← hsz, e1]
    congr 2
    funext j
    rw [hr j]
    rfl
  have e0 : (aR n :: st).map (cv b0 aS) = .ref H.size :: st.map (cv b0 aS) := by
    simp [cv, adlt (aS := aS) (b0 := b0) (Nat.lt_trans hn NF_lt), hsz]
  have k1 := kk H1 locs ls ⟨hP1, fun _ => by show H1.size = b0 + (n + 1); omega⟩ ⟨Nat.le_trans hS.1 (by omega), fun x h1 h2 => (o1 x (Nat.lt_of_lt_of_le h1 hS.1)).trans (hS.2.1 x h1 h2), hS.2.2⟩ hL hmx
  rw [e0] at k1
  exact k1
/-- a reference is laid into a field -/
theorem A_putr {a v idx i0 ci j i9 len kt t : Nat} (hM : MK K M) (he : M.2.1[k]? = some (.putfield idx, len, kt)) (hlen : len = 3) (hl : lkF M.1 idx = some (i0, ci, j, i9)) (hkd : kd a = ci) (ha : a < n) (hft : ft ci j = 2) (hfin : fin_ ci j = false ∨ (M.1 = ci ∧ K.2.2.2.2.2.2.2.2.1.name = "<init>")) (hv : v < 1000) (hev : evL[t]? = some (a, j, v)) (kk : ATk K (n, rfS (t + 1)) cs sl M (k + 1) lv st h) : ATk K (n, rfS t) cs sl M k lv (aR v :: aR a :: st) h := by
  subst hlen
  have hdec := (hM.dec he).1
  unfold ATk at kk ⊢
  rw [pcAt_succ he] at kk
  obtain ⟨⟨l, D, cy, b0, aS, aV⟩, p, ee, R, s, m, args, below, meth, c, Q⟩ := K
  obtain ⟨hx, hb, hrt, hml, hown, hts, hlk, hWk⟩ := hM.1
  intro H locs ls hW hS hL hmx
  obtain ⟨hlink, hjc, hci⟩ := lk_spec (lk_lt hl) hl
  have hlt : a < 1000 := Nat.lt_trans (kd_in hkd (by omega)) NF_lt
  have hcell : (WSl cy b0 n (rfS t) h)[a]? = some (b0 + a, .inr (ci, (List.range (clN ci)).map (fv b0 (rfS t a) (h a) ci))) := by
    rw [WSl_get ha]
    unfold cellE
    rw [hkd, if_pos hci]
  have href := isRef_of hci hjc hft (b0 + v)
  have e0 : (aR v :: aR a :: st).map (cv b0 aS) = .ref (b0 + v) :: .ref (b0 + a) :: st.map (cv b0 aS) := by
    simp [cv, adlt hlt, adlt hv]
  rw [e0]
  refine put_row (o := M.1) hx hb hci hts hown hWk.1 hW.1 WSl_D hS a hcell hjc hlink hfin href.1 href.2 (by simpa using hjc) hdec fun H1 locs1 z1 hP1 hS1 => ?_
  have hset : (WSl cy b0 n (rfS t) h).set a (b0 + a, .inr (ci, ((List.range (clN ci)).map (fv b0 (rfS t a) (h a) ci)).set j (.ref (b0 + v)))) = WSl cy b0 n (rfS (t + 1)) h := by
    refine WSl_set ?_ (fun _ _ => rfl) (fun b hb => by funext i; rw [rfS_put hev, if_neg (fun q => hb q.1)])
    unfold cellE
    rw [hkd, if_pos hci]
    congr 2
    refine (map_range_set ?_ ?_).symm
    · unfold fv
      rw [hft]
      show va_rf ((rfS (t + 1) a j).map (b0 + ·)) = _
      rw [rfS_put hev, if_pos ⟨rfl, rfl⟩]
      rfl
    · intro i hi
      unfold fv
      rw [rfS_put hev, if_neg (fun q => hi q.2)]
  rw [hset] at hP1
  exact kk H1 locs1 ls ⟨hP1, fun hn => by rw [z1]; exact hW.2 hn⟩ hS1 hL hmx
/-- a text is laid into the array of texts -/
theorem A_astt {a v len kt t j : Nat} {z : Int} (hM : MK K M) (he : M.2.1[k]? = some (.aastore, len, kt)) (hlen : len = 1) (hkd : kd a = 17) (hln : ln a = 8) (ha : a < n) (hkv : kd v = 10) (hvn : v < n) (hz : z = (j : Int)) (hj : j < 8) (hev : evL[t]? = some (a, j, v)) (kk : ATk K (n, rfS (t + 1)) cs sl M (k + 1) lv st h) : ATk K (n, rfS t) cs sl M k lv (aR v :: aI z :: aR a :: st) h := by
  subst hlen
  subst hz
  have hdec := (hM.dec he).1
  unfold ATk at kk ⊢
  rw [pcAt_succ he] at kk
  obtain ⟨⟨l, D, cy, b0, aS, aV⟩, p, ee, R, s, m, args, below, meth, c, Q⟩ := K
  obtain ⟨hx, hb, hrt, hml, hown, hts, hlk, hWk⟩ := hM.1
  intro H locs ls hW hS hL hmx
  have hlt : a < 1000 := Nat.lt_trans (kd_in hkd (by omega)) NF_lt
  have hvl : v < 1000 := Nat.lt_trans (kd_in hkv (by omega)) NF_lt
  have hv : (Int32.ofInt (j : Int)).toInt = (j : Int) := by
    exact Int32.toInt_ofInt_of_le (by omega) (by omega)
  have hneg : ¬ Int32.ofInt (j : Int) < 0 := by
    rw [Int32.lt_iff_toInt_lt, hv]
    show ¬ (j : Int) < 0
    omega
  have hNat : (Int32.ofInt (j : Int)).toNatClampNeg = j := by
    show (Int32.ofInt (j : Int)).toInt.toNat = j
    rw [hv]
    rfl
  have hcell : (WSl cy b0 n (rfS t) h)[a]? = some (b0 + a, .inl (cy 17, 8, .inr (.inr (.inr (.inr (fun i => (rfS t a i).map (b0 + ·))))))) := by
    rw [WSl_get ha]
    unfold cellE
    simp [hkd, hln]
  have hcv : (WSl cy b0 n (rfS t) h)[v]? = some (b0 + v, .inr (10, (List.range (clN 10)).map (fv b0 (rfS t v) (h v) 10))) := by
    rw [WSl_get hvn]
    unfold cellE
    simp [hkv]
  have hc10 := cl_vw 10 (by decide)
  obtain ⟨r', hr', cellV, g1, g2, g3, -⟩ := hW.1 v _ hcv
  have hcls := (hWk.1.1 10 _ hc10).2
  obtain ⟨kA, comp, k1, k2, k3, -⟩ := (hWk.1.2 4 (cy 17, .object RX10) rfl).2
  have hcomp : comp = D.1 10 := Option.some.inj (k3.symm.trans hcls.1)
  subst hcomp
  obtain ⟨kC, hkC, -⟩ := hcls.2
  have e0 : (aR v :: aI (j : Int) :: aR a :: st).map (cv b0 aS) = .ref (b0 + v) :: .int (Int32.ofInt (j : Int)) :: .ref (b0 + a) :: st.map (cv b0 aS) := by
    simp [cv, adlt hlt, adlt hvl]
  rw [e0]
  refine W.aast hx hb (hW.1 a _ hcell) (fun q h => by cases h) (fun h => by cases h) k1 k2 rfl hkC ⟨hneg, by show _ < (arrV _ _ _).slots.size; rw [arrV_size, hNat]; exact hj⟩ g1 (fun q h => by rw [g3] at h; cases h) (by rw [g2]; exact hkC) (by rw [g2]; exact va_assign hcls) rfl rfl hdec fun H1 e z oq => ?_
  have hset : (WSl cy b0 n (rfS t) h).set a (b0 + a, .inl (cy 17, 8, .inr (.inr (.inr (.inr (va_up (fun i => (rfS t a i).map (b0 + ·)) (Int32.ofInt (j : Int)).toNatClampNeg (some (b0 + v)))))))) = WSl cy b0 n (rfS (t + 1)) h := by
    refine WSl_set ?_ (fun _ _ => rfl) (fun b hb => by funext i; rw [rfS_put hev, if_neg (fun q => hb q.1)])
    unfold cellE
    simp only [hkd, hln]
    rw [hNat]
    show (Sum.inl (cy 17, 8, Sum.inr (Sum.inr (Sum.inr (Sum.inr _)))) : va_E) = _
    refine congrArg (fun f => (Sum.inl (cy 17, 8, Sum.inr (Sum.inr (Sum.inr (Sum.inr f)))) : va_E)) ?_
    funext i
    rw [rfS_put hev]
    unfold va_up
    by_cases q : i = j
    · subst q
      simp
    · simp [q]
  have hP1 : va_P D vwCl (WSl cy b0 n (rfS (t + 1)) h) H1 := by
    rw [← hset]
    refine hW.1.set (WSl_D (h := h)) hcell ?_ oq
    show H1[b0 + a]? = some (vp_cell _ _)
    rw [e, vp_cell_q, vp_cell_q, arrV_store]
    congr 2
    funext q
    unfold updV va_up
    by_cases h9 : q = (Int32.ofInt (j : Int)).toNatClampNeg
    · subst h9
      simp [va_rf]
    · simp [h9]
  exact kk H1 _ ls ⟨hP1, fun hn => by rw [z]; exact hW.2 hn⟩ (hS.put z oq (WSl_D.2 a _ hcell)) hL hmx
end RU6
section CA6
variable {K : Kx} {G : Gx} {F : Fx} {cs sl k d mc ms : Nat} {M : Mx} {lv : List (Option AV)} {st : List AV} {h : Hp} {Qc : Option AV → Fx → Hp → Prop}
/-- a constructor is called -/
theorem A_callI {y : MethodName} {My : Mx} {np idx len kt d1 a : Nat} {As rest : List AV} (hM : MB K G M d) (he : M.2.1[k]? = some (.invokespecial idx, len, kt)) (hlen : len = 3) (hlink : .methodLink (clR M.1) idx y ∈ GW) (hret : My.2.2.2.2 = none) (hi : MIs y My np) (hins : .instanceMethod y ∈ GW) (hy1 : y.name = "<init>") (hC : CT G y My d1 mc ms F h (aR a :: As) Qc) (hd : d1 < d) (hcs : cs + mc ≤ K.2.2.2.1.cells ∧ sl + ms ≤ K.2.2.2.1.slots) (hst : As.reverse ++ aR a :: rest = st) (hnp : As.length = np) (hrest : catW rest ≤ 8) (ha : a < 1000)
    (kk : ∀ (r : Option AV) (F' : Fx) (h' : Hp), Qc r F' h' → ATk K F' (cs + mc) (sl + ms) M (k + 1) lv (r.toList ++ rest) h') : ATk K F cs sl M k lv st h := by
  subst hlen
  subst hst
  obtain ⟨hMK, hKG, hfr, hlo⟩ := hM
  have hdec := (hMK.dec he).1
  unfold ATk at kk ⊢
  rw [pcAt_succ he] at kk
  obtain ⟨⟨l, D, cy, b0, aS, aV⟩, p, ee, R, s, m, args, below, meth, c, Q⟩ := K
  subst hKG
  obtain ⟨hx, hb, hrt, hml, hown, hts, hlk, hWk⟩ := hMK.1
  obtain ⟨g1, g2, g3, g4, g5, g6⟩ := hi
  intro H locs ls hW hS hL hmx
  have hsp : ((As.reverse ++ aR a :: rest).map (cv b0 aS)) = (As.map (cv b0 aS)).reverse ++ .ref (b0 + a) :: rest.map (cv b0 aS) := by
    simp [cv, adlt ha]
  rw [hsp]
  unfold CT at hC
  dsimp only at hC
  rw [hret] at hC g1
  have e : (aR a :: As).map (cv b0 aS) = .ref (b0 + a) :: As.map (cv b0 aS) := by simp [cv, adlt ha]
  rw [e] at hC
  have hGi : GoodIn GW (.code y My.2.2.1 My.2.2.2.1 none :: GW) := goodIn_mem (by
    intro w hw
    rcases List.mem_cons.mp hw with rfl | hw
    · exact g1
    · exact hw)
  refine run_go (va_runI (As := As.map (cv b0 aS)) (rest := rest.map (cv b0 aS)) ⟨hx, hb, hml, hown, hts⟩ hC (cwI np hts hGi rfl rfl rfl (hts _ g2) (hts _ hlink) (hts _ hins) hy1 ⟨g3, g4, g5⟩ ⟨by show d1 + 1 ≤ R.frames; exact Nat.le_trans hd hfr, by show 8 + (My.2.2.2.1 + 11) + 34 * d1 ≤ R.locals; have : 34 * d ≤ R.locals := hlo; omega⟩) ⟨pre_blind, fun U hU hw => pre_at hU hw hW hS hWk⟩ rfl (by simpa using hnp) (hL.2.1.trans (hmx.symm.trans hml)) rfl (lv_room (by rw [catW_le]; exact hrest)) hdec hcs) hS fun r F' h' H1 locs1 hq hW1 hS1 => ?_
  exact kk r F' h' hq H1 locs1 ls hW1 hS1 hL hmx
theorem A_callIN {y : MethodName} {My : Mx} {np idx len kt d1 a : Nat} {host : String} {As rest : List AV} (hM : MB K G M d) (he : M.2.1[k]? = some (.invokespecial idx, len, kt)) (hlen : len = 3) (hlink : .methodLinkNest (clR M.1) idx y host ∈ NW) (hret : My.2.2.2.2 = none) (hi : MIs y My np) (hins : .instanceMethod y ∈ GW) (hy1 : y.name = "<init>") (hC : CT G y My d1 mc ms F h (aR a :: As) Qc) (hd : d1 < d) (hcs : cs + mc ≤ K.2.2.2.1.cells ∧ sl + ms ≤ K.2.2.2.1.slots) (hst : As.reverse ++ aR a :: rest = st) (hnp : As.length = np) (hrest : catW rest ≤ 8) (ha : a < 1000)
    (kk : ∀ (r : Option AV) (F' : Fx) (h' : Hp), Qc r F' h' → ATk K F' (cs + mc) (sl + ms) M (k + 1) lv (r.toList ++ rest) h') : ATk K F cs sl M k lv st h := by
  subst hlen
  subst hst
  obtain ⟨hMK, hKG, hfr, hlo⟩ := hM
  have hdec := (hMK.dec he).1
  unfold ATk at kk ⊢
  rw [pcAt_succ he] at kk
  obtain ⟨⟨l, D, cy, b0, aS, aV⟩, p, ee, R, s, m, args, below, meth, c, Q⟩ := K
  subst hKG
  obtain ⟨hx, hb, hrt, hml, hown, hts, hlk, hWk⟩ := hMK.1
  obtain ⟨g1, g2, g3, g4, g5, g6⟩ := hi
  intro H locs ls hW hS hL hmx
  have hsp : ((As.reverse ++ aR a :: rest).map (cv b0 aS)) = (As.map (cv b0 aS)).reverse ++ .ref (b0 + a) :: rest.map (cv b0 aS) := by
    simp [cv, adlt ha]
  rw [hsp]
  unfold CT at hC
  dsimp only at hC
  rw [hret] at hC g1
  have e : (aR a :: As).map (cv b0 aS) = .ref (b0 + a) :: As.map (cv b0 aS) := by simp [cv, adlt ha]
  rw [e] at hC
  have hGi : GoodIn GW (.code y My.2.2.1 My.2.2.2.1 none :: GW) := goodIn_mem (by
    intro w hw
    rcases List.mem_cons.mp hw with rfl | hw
    · exact g1
    · exact hw)
  refine run_go (va_runIN (As := As.map (cv b0 aS)) (rest := rest.map (cv b0 aS)) ⟨hx, hb, hml, hown, hts⟩ hC ⟨va_cnB np hts hGi rfl rfl rfl (hWk.2.1 _ hlink) (hts _ g2) ⟨g3, g4, g5⟩ ⟨by show d1 + 1 ≤ R.frames; exact Nat.le_trans hd hfr, by show 8 + (My.2.2.2.1 + 11) + 34 * d1 ≤ R.locals; have : 34 * d ≤ R.locals := hlo; omega⟩, hy1, hts _ hins⟩ ⟨pre_blind, fun U hU hw => pre_at hU hw hW hS hWk⟩ rfl (by simpa using hnp) (hL.2.1.trans (hmx.symm.trans hml)) rfl (lv_room (by rw [catW_le]; exact hrest)) hdec hcs) hS fun r F' h' H1 locs1 hq hW1 hS1 => ?_
  exact kk r F' h' hq H1 locs1 ls hW1 hS1 hL hmx
end CA6
section OB6
variable {K : Kx} {G : Gx} {F : Fx} {cs sl k d : Nat} {M : Mx} {lv : List (Option AV)} {h : Hp}
theorem A_obj {idx len kt a : Nat} {rest : List AV} (hM : MB K G M d) (hd : 1 ≤ d) (he : M.2.1[k]? = some (.invokespecial idx, len, kt)) (hlen : len = 3) (hlink : .methodLink (clR M.1) idx objectInit ∈ GW) (ha : a < 1000) (hrest : catW rest ≤ 8) (kk : ATk K F cs sl M (k + 1) lv rest h) : ATk K F cs sl M k lv (aR a :: rest) h := by
  subst hlen
  obtain ⟨hMK, hKG, hfr, hlo⟩ := hM
  have hdec := (hMK.dec he).1
  unfold ATk at kk ⊢
  rw [pcAt_succ he] at kk
  obtain ⟨⟨l, D, cy, b0, aS, aV⟩, p, ee, R, s, m, args, below, meth, c, Q⟩ := K
  obtain ⟨hx, hb, hrt, hml, hown, hts, hlk, hWk⟩ := hMK.1
  intro H locs ls hW hS hL hmx
  have e0 : (aR a :: rest).map (cv b0 aS) = .ref (b0 + a) :: rest.map (cv b0 aS) := by simp [cv, adlt ha]
  rw [e0]
  have h8 : 2 * (F0 m (pcAt M.2.1 k) ls (.ref (b0 + a) :: rest.map (cv b0 aS))).monitorRoom + ((rest.map (cv b0 aS)).map fun v => v.category).sum ≤ 8 := lv_room (by rw [catW_le]; exact hrest)
  have h34 : 34 * d ≤ R.locals := hlo
  refine W.objInit hx hb hown (hts _ hlink) (hts _ gw_oi) (hts _ gw_oc) rfl (hL.2.1.trans hmx.symm) rfl hdec (Nat.le_trans hd hfr) (by omega) ?_
  exact kk H locs ls hW hS hL hmx
end OB6
