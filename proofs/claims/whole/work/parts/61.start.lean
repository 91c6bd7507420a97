def R_law : String := "QuotedBooksLaw"
def lw_P (b : Addr) (xs : List Int32) (args : Array Value) (s : State) : Prop := args = #[.ref b] ∧ s.IntsAt b xs ∧ xs.length ≤ 3072 ∧ (Jvm.Cond.and given_1 narrow_1).before args s = true
def lw_Q (_ : Array Value) (s : State) (o : Outcome) (t : State) : Prop := o = .returned (some (.int 1)) ∧ Framed s o t [] 600000 7302250
def lw_Z (below : List Frame) (a : Array Value) (s : State) : State → Prop := fun t => ∃ o, t.status = .running ∧ Ended t below o ∧ lw_Q a s o t
/-- the law's own end, with 1 on the stack, nothing written that was there before, its room as the claim has it -/
theorem lw_ret {p : Program} {l : Launch} {e : Env} {s : State} {m : MethodId} {below : List Frame} {meth : Method} {c : Code} {b : Nat} (hx : p.tables.exec = Jvm.exec) (hb : c.code = code) (hr : meth.sig.returnType = ret) (hlocks : meth.locks = false) {pc : Nat} {H : Heap} {ls : Array Slot} (hdg : decode code pc = .ok (.ireturn, 1)) : W p l e room_1 s m #[Value.ref b] below meth c H [] 600000 7302250 (lw_Z below #[Value.ref b] s) (F0 m pc ls [.int 1]) := by
  intro T hT X
  obtain ⟨fs, hret, hrun, hended, hW, hframe⟩ := X.leave (v := some (.int 1)) (hlocks := hlocks) (fun h => by rw [hr] at h; cases h)
  have hmeth' : T.vm.method? m = some meth := X.method'
  refine ⟨T.setFrames fs, ?_, .returned (some (.int 1)), hrun, hended, rfl, ⟨_, rfl⟩, hW, hframe⟩
  jvm_step X.here [X.here.top, hx, hb, hdg, hmeth', hr, ret, narrow_b1]
  (try refine ⟨rfl, ?_⟩); (try refine ⟨rfl, ?_⟩)
  first | (intro acts; rw [hret _ acts rfl rfl rfl]) | rw [hret _ _ rfl rfl rfl]
  exact Steps.refl _
/-- what holds at the law's entry: the machine, the code, the tables' words (any of lw_tbl by 'hts w (by decide +kernel)'), the script of L ints xs at the cell b, what the Statement gives of the start (any of its parts by flat_of_before) -/
def lw_At (p : Program) (s : State) (m : MethodId) (meth : Method) (c : Code) (b L : Nat) (xs : Nat → Int32) : Prop :=
  p.tables.exec = Jvm.exec ∧ c.code = code ∧ meth.sig.returnType = ret ∧ c.maxLocals = 4 ∧ s.vm.findClass R_law = some m.cls ∧ (∀ w ∈ lw_tbl, w.before #[Value.ref b] s = true) ∧ va_X b L xs s s.heap ∧ b < s.heap.size ∧ meth.locks = false ∧ (Jvm.Cond.and given_1 narrow_1).before #[Value.ref b] s = true
/-! THE START -/
def hS0 : Hp := setH (setH (setH (setH hz0 52 1 1) 66 16 (-1)) 0 15 1) 150 6 1
theorem LK_le {K : Kx} {L : Nat} {xs : Nat → Int} {a b : Nat} (h : LK K L xs) (h1 : Nat.ble a 600000 = true) (h2 : Nat.ble b 7302250 = true) : a ≤ K.2.2.2.1.cells ∧ b ≤ K.2.2.2.1.slots := by
  obtain ⟨⟨l, D, cy, b0, aS, aV⟩, p, ee, R, s, m, args, below, meth, c, Q⟩ := K
  obtain ⟨-, -, -, -, rfl, -⟩ := h
  exact ⟨Nat.le_trans (Nat.le_of_ble_eq_true h1) (Nat.le_of_ble_eq_true rfl), Nat.le_trans (Nat.le_of_ble_eq_true h2) (Nat.le_of_ble_eq_true rfl)⟩
theorem FN_end : ((199, rfS 210) : Fx) = FN := by rw [rf_end]; rfl
set_option maxRecDepth 20000 in
set_option maxHeartbeats 4000000 in
theorem c_L_start {K : Kx} {G : Gx} (hM : MB K G M_L_law 2048) (L : Nat) (xs : Nat → Int) (hQ : LK K L xs) {P : Int × Hp → Prop} (hh : OK (L_law L xs hS0) P) : ATk K (0, rfS 0) 0 0 M_L_law 0 [some (aR 3000), none, none, none] [] hz0 := by
  refine A_newo hM.1 rfl rfl (ci := 11) (mem_GW 145 (by decide +kernel) rfl) (mem_GW 146 (by decide +kernel) rfl) (mem_GW 123 (by decide +kernel) rfl) rfl (by decide) (by decide) (fun j => rfS_none (by decide +kernel) j) (fun j => rfl) (LK_le hQ rfl rfl) ?_
  refine A_blk hM.1 1 (lv1 := [some (aR 3000), none, none, none]) (s1 := [aR 0, aR 0]) (h1 := hz0) rfl ?_
  refine A_callI hM rfl rfl (mem_GW 147 (by decide +kernel) rfl) rfl mi_X11_init in_X11_init rfl (As := []) (rest := [aR 0]) ci_1 (by decide) (LK_le hQ rfl rfl) rfl rfl (Nat.le_of_ble_eq_true rfl) (by decide) (fun r F' h' hq1 => ?_)
  obtain ⟨rfl, rfl, rfl⟩ := hq1
  refine A_blk hM.1 1 (lv1 := [some (aR 3000), some (aR 0), none, none]) (s1 := []) (h1 := setH (setH (setH hz0 52 1 1) 66 16 (-1)) 0 15 1) rfl ?_
  refine A_newo hM.1 rfl rfl (ci := 12) (mem_GW 1590 (by decide +kernel) rfl) (mem_GW 1591 (by decide +kernel) rfl) (mem_GW 135 (by decide +kernel) rfl) rfl (by decide) (by decide) (fun j => rfS_none (by decide +kernel) j) (fun j => rfl) (LK_le hQ rfl rfl) ?_
  refine A_blk hM.1 1 (lv1 := [some (aR 3000), some (aR 0), none, none]) (s1 := [aR 150, aR 150]) (h1 := setH (setH (setH hz0 52 1 1) 66 16 (-1)) 0 15 1) rfl ?_
  refine A_callI hM rfl rfl (mem_GW 1592 (by decide +kernel) rfl) rfl mi_X12_init in_X12_init rfl (As := []) (rest := [aR 150]) ci_25 (by decide) (LK_le hQ rfl rfl) rfl rfl (Nat.le_of_ble_eq_true rfl) (by decide) (fun r F' h' hq1 => ?_)
  obtain ⟨rfl, rfl, rfl⟩ := hq1
  refine A_blk hM.1 1 (lv1 := [some (aR 3000), some (aR 0), some (aR 150), none]) (s1 := []) (h1 := hS0) rfl ?_
  rw [FN_end]
  exact c_L_law hM L xs hS0 hQ hh
theorem all10 {f : Nat → Bool} (h : (List.range 10).all f = true) {i : Nat} (hi : i < 10) : f i = true := List.all_eq_true.mp h i (List.mem_range.mpr hi)
theorem mem_tbl {w : Cond} (i : Nat) (h : lw_tbl[i]? = some w) : w ∈ lw_tbl := List.mem_of_getElem? h
def insI : List Nat := [459, 307, 339, 502, 294, 398, 229, 168, 345, 154, 235, 146, 1591]
theorem ins_all : (List.range 13).all (fun ci => decide (lw_tbl[insI.getD ci 0]? = some (.instantiable (clR ci) (clN ci)))) = true := by decide +kernel
theorem cl_len : vwCl.length = 13 := by decide +kernel
theorem start_D {s : State} {args : Array Value} (hts : ∀ w ∈ lw_tbl, w.before args s = true) : ∃ D : va_G, ∀ (c : Nat) (q : vw_C), vwCl[c]? = some q → u_Kn s q.1 q.2.1 q.2.2 (D.1 c) (D.2 c) := by
  have h0 : ∀ c : Nat, ∃ d : ClassId × (Nat → Nat), ∀ q : vw_C, vwCl[c]? = some q → u_Kn s q.1 q.2.1 q.2.2 d.1 d.2 := by
    intro c
    by_cases hc : c < 13
    · have hi := List.all_eq_true.mp ins_all c (List.mem_range.mpr hc)
      simp only [decide_eq_true_eq] at hi
      obtain ⟨cC, iS, hK⟩ := u_known (ws := lw_tbl) hts (fun w hw => GW_sub w (cl_in c hc w hw)) (hts _ (mem_tbl _ hi))
      refine ⟨(cC, iS), fun q hq => ?_⟩
      rw [cl_vw c hc] at hq
      cases hq
      exact hK
    · refine ⟨(0, fun _ => 0), fun q hq => ?_⟩
      have := (List.getElem?_eq_some_iff.mp hq).1
      rw [cl_len] at this
      exact absurd this hc
  obtain ⟨d, hd⟩ := Classical.axiomOfChoice h0
  exact ⟨(fun c => (d c).1, fun c => (d c).2), hd⟩
theorem arr_of {s : State} {args : Array Value} {ty : FieldType} (h : (Cond.arrayClass ty).before args s = true) : ∃ (cA : ClassId), (∃ (k : Class) (comp : ClassId), s.vm.findClass ("[" ++ ty.toString) = some cA ∧ s.vm.classes[cA]? = some k ∧ k.kind = .array comp ty) := by
  obtain ⟨c, k, comp, h1, h2, h3⟩ := Cond.arrayClass_spec h
  exact ⟨c, k, comp, h1, h2, h3⟩
theorem start_cy {s : State} {args : Array Value} (hts : ∀ w ∈ lw_tbl, w.before args s = true) : ∃ cy : Nat → ClassId, ∀ (k : Nat) (q : ClassId × FieldType), (tysL cy)[k]? = some q → ArrOfT s q.1 q.2 ∧ va_RA s q.1 q.2 := by
  obtain ⟨c1, k1, m1, a1, b1, d1⟩ := arr_of (hts _ (GW_sub _ gw_ab))
  obtain ⟨c2, k2, m2, a2, b2, d2⟩ := arr_of (hts _ (GW_sub _ gw_ai))
  obtain ⟨c3, k3, m3, a3, b3, d3⟩ := arr_of (hts _ (GW_sub _ gw_al))
  obtain ⟨c4, k4, m4, a4, b4, d4⟩ := arr_of (hts _ (GW_sub _ gw_az))
  obtain ⟨m5, c5, k5, f5, -, b5, d5, a5⟩ := Cond.arrayOver_spec (hts _ (mem_tbl (w := .arrayOver (.object RX10)) 291 (by decide +kernel)))
  refine ⟨fun k => if k = 13 then c1 else if k = 14 then c2 else if k = 15 then c3 else if k = 16 then c4 else c5, fun k q hq => ?_⟩
  match k, hq with
  | 0, hq => cases hq; exact ⟨fun N z => ⟨(fun k h => by cases h), k1, b1, m1, d1⟩, a1⟩
  | 1, hq => cases hq; exact ⟨fun N z => ⟨(fun k h => by cases h), k2, b2, m2, d2⟩, a2⟩
  | 2, hq => cases hq; exact ⟨fun N z => ⟨(fun k h => by cases h), k3, b3, m3, d3⟩, a3⟩
  | 3, hq => cases hq; exact ⟨fun N z => ⟨(fun k h => by cases h), k4, b4, m4, d4⟩, a4⟩
  | 4, hq => cases hq; exact ⟨fun N z => ⟨(fun k h => by cases h), k5, b5, m5, d5⟩, k5, m5, b5, d5, f5, a5⟩
  | _ + 5, hq => cases hq
theorem start_str {s : State} {b : Nat} (hts : ∀ w ∈ lw_tbl, w.before #[Value.ref b] s = true) (hg : (Jvm.Cond.and given_1 narrow_1).before #[Value.ref b] s = true) : ∃ aS aV : Nat → Nat, StrOK aS aV s.heap.size s s.heap ∧ aS 2000 = b := by
  have hs : ∀ w ∈ fl0, w.before #[Value.ref b] s = true := flat_of_before _ hg
  have hA : ∀ a : Nat, a < s.heap.size → ¬ (fun q : Nat => s.heap.size ≤ q) a := fun a h => Nat.not_le.mpr h
  obtain ⟨ak, av, hS, hE⟩ := vk_Sof (args := #[Value.ref b]) (s := s) (N := 10) (tm := tmS) (len := strLen) (byt := strByt) (A := fun q : Nat => s.heap.size ≤ q)
    (fun i hi => of_decide_eq_true (all10 st_ln hi)) (fun i hi => hs _ (of_decide_eq_true (all10 st_ex hi))) (fun i hi => hs _ (of_decide_eq_true (all10 st_co hi)))
    (fun i hi => hs _ (of_decide_eq_true (all10 st_ar hi))) (fun i hi => hs _ (of_decide_eq_true (all10 st_le hi)))
    (fun i hi j hj => hs _ (by
      have := List.all_eq_true.mp (all10 st_el hi) j (List.mem_range.mpr hj)
      exact of_decide_eq_true this))
    (fun i j hi hj hij => by
      have := all10 (f := fun j => i == j || decide (Cond.not (Cond.eq (tmS i) (tmS j)) ∈ fl0) || decide (Cond.not (Cond.eq (tmS j) (tmS i)) ∈ fl0)) (all10 st_ne hi) hj
      simp only [Bool.or_eq_true, beq_iff_eq, decide_eq_true_eq] at this
      rcases this with (h | h) | h
      · exact absurd h hij
      · exact Or.inl (hs _ h)
      · exact Or.inr (hs _ h)) hA
  have hz : va_Z "java/lang/String" "COMPACT_STRINGS" "Z" (.int 1) (fun q : Nat => s.heap.size ≤ q) s s.heap :=
    va_Zof (hts _ (mem_tbl 745 (by decide +kernel))) (hts _ (mem_tbl 136 (by decide +kernel))) (va_eqt (hs _ st_cs)) hA
  refine ⟨fun k => if k < 10 then ak k else if k < 1010 then av (k - 1000) else b, av, ⟨?_, ?_, ?_, hz, va_AO.of (hts _ (mem_tbl 291 (by decide +kernel)))⟩, rfl⟩
  · refine ⟨fun i hi => ?_, fun i j hi hj e => ?_⟩
    · have := hS.1 i hi
      simpa [hi] using this
    · refine hS.2 i j hi hj ?_
      simpa [hi, hj] using e
  · intro j hj
    have h1 := all10 st_rf hj
    simp only [decide_eq_true_eq] at h1
    dsimp only
    rw [if_pos hj]
    exact vk_R.of (hts _ (mem_tbl _ h1)) (hE j hj)
  · intro j hj
    dsimp only
    rw [if_neg (by omega), if_pos (by omega), show 1000 + j - 1000 = j by omega]
theorem start_of (hp : ∀ (L : Nat) (xs : Nat → Int), L ≤ 3072 → (∀ j, -2147483648 ≤ xs j ∧ xs j < 2147483648) → OK (L_law L xs hS0) (fun _ => True)) {p : Program} {e : Env} {s : State} {m : MethodId} {below : List Frame} {meth : Method} {c : Code} (l : Launch) {b L : Nat} {xs : Nat → Int32} (hL : L ≤ 3072) (C0 : lw_At p s m meth c b L xs) : W p l e room_1 s m #[Value.ref b] below meth c s.heap [] 0 0 (lw_Z below #[Value.ref b] s) (entryFrame m ([Value.ref b] : List Value).toArray 4) := by
  obtain ⟨hx, hb, hr, hml, hown, hts, hX, hbl, hlk, hg⟩ := C0
  obtain ⟨D, hD⟩ := start_D hts
  obtain ⟨cy, hcy⟩ := start_cy hts
  obtain ⟨aS, aV, hSt, hb2⟩ := start_str hts hg
  have hWk : Wk (l, D, cy, s.heap.size, aS, aV) s := ⟨⟨hD, hcy⟩, fun w hw => by
    obtain ⟨a, i, x, z, rfl⟩ := NW_nest hw
    exact va_Nw.of rfl (hts _ (NW_sub _ hw)), hSt, Nat.le_refl _⟩
  have hM : MB ((l, D, cy, s.heap.size, aS, aV), p, e, room_1, s, m, #[Value.ref b], below, meth, c, lw_Z below #[Value.ref b] s) (l, D, cy, s.heap.size, aS, aV) M_L_law 2048 :=
    ⟨⟨⟨hx, hb, hr, hml, hown, fun w hw => hts w (GW_sub w hw), hlk, hWk⟩, k_L_law⟩, rfl, Nat.le_of_ble_eq_true rfl, Nat.le_of_ble_eq_true rfl⟩
  have hQ : LK ((l, D, cy, s.heap.size, aS, aV), p, e, room_1, s, m, #[Value.ref b], below, meth, c, lw_Z below #[Value.ref b] s) L (fun j => (xs j).toInt) := by
    refine ⟨?_, by rw [hb2]; exact hbl, by rw [hb2]; exact Nat.not_le.mpr hbl, rfl, rfl, fun pc H ls hd => ?_⟩
    · rw [hb2]
      have : (fun j => Int32.ofInt (xs j).toInt) = xs := by funext j; exact Int32.ofInt_toInt _
      rw [this]
      exact hX
    · exact lw_ret hx hb hr hlk (by rw [← hb]; exact hd)
  have k0 := c_L_start hM L (fun j => (xs j).toInt) hQ (hp L _ hL (fun j => ⟨Int32.le_toInt _, Int32.toInt_lt _⟩))
  have hLV := lv0_LV (b0 := s.heap.size) (aS := aS) [aR 3000] (nL := 4) (by decide)
  have e0 : ([aR 3000].map (cv s.heap.size aS)) = [Value.ref b] := by
    show [Value.ref (aS 2000)] = _
    rw [hb2]
  rw [e0] at hLV
  have hp0 : pcAt M_L_law.2.1 0 = 0 := rfl
  have h1 := k0 s.heap [] _ ⟨fun k q hq => (by cases hq), fun _ => rfl⟩ va_S.rf hLV hml
  show W p l e room_1 s m _ below meth c s.heap [] 0 0 _ (entryFrame m (([Value.ref b] : List Value).toArray) 4)
  rw [lg_entry_eq]
  rw [hp0] at h1
  exact h1
