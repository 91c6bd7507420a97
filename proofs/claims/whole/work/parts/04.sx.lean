/-! ONE PLAIN INSTRUCTION -/
def un32 (f : Int → AV) (st : List AV) : Option (List AV) := match st with
  | .inl x :: r => some (f x :: r)
  | _ => none
def un64 (f : Int → AV) (st : List AV) : Option (List AV) := match st with
  | .inr (.inl x) :: r => some (f x :: r)
  | _ => none
def bin32 (f : Int → Int → Int) (st : List AV) : Option (List AV) := match st with
  | .inl y :: .inl x :: r => some (aI (f x y) :: r)
  | _ => none
def bin64 (f : Int → Int → AV) (st : List AV) : Option (List AV) := match st with
  | .inr (.inl y) :: .inr (.inl x) :: r => some (f x y :: r)
  | _ => none
def shf64 (f : Int → Int → Int) (st : List AV) : Option (List AV) := match st with
  | .inl y :: .inr (.inl x) :: r => some (aL (f x y) :: r)
  | _ => none
theorem un32_inv {f : Int → AV} {st st' : List AV} (h : un32 f st = some st') : ∃ x r, st = .inl x :: r ∧ st' = f x :: r := by
  unfold un32 at h
  split at h
  · cases h; exact ⟨_, _, rfl, rfl⟩
  · cases h
theorem un64_inv {f : Int → AV} {st st' : List AV} (h : un64 f st = some st') : ∃ x r, st = .inr (.inl x) :: r ∧ st' = f x :: r := by
  unfold un64 at h
  split at h
  · cases h; exact ⟨_, _, rfl, rfl⟩
  · cases h
theorem bin32_inv {f : Int → Int → Int} {st st' : List AV} (h : bin32 f st = some st') : ∃ x y r, st = .inl y :: .inl x :: r ∧ st' = aI (f x y) :: r := by
  unfold bin32 at h
  split at h
  · cases h; exact ⟨_, _, _, rfl, rfl⟩
  · cases h
theorem bin64_inv {f : Int → Int → AV} {st st' : List AV} (h : bin64 f st = some st') : ∃ x y r, st = .inr (.inl y) :: .inr (.inl x) :: r ∧ st' = f x y :: r := by
  unfold bin64 at h
  split at h
  · cases h; exact ⟨_, _, _, rfl, rfl⟩
  · cases h
theorem shf64_inv {f : Int → Int → Int} {st st' : List AV} (h : shf64 f st = some st') : ∃ x y r, st = .inl y :: .inr (.inl x) :: r ∧ st' = aL (f x y) :: r := by
  unfold shf64 at h
  split at h
  · cases h; exact ⟨_, _, _, rfl, rfl⟩
  · cases h
abbrev Sx : Type := List (Option AV) × List AV × Hp
def ldI (lv : List (Option AV)) (st : List AV) (h : Hp) (i : Nat) : Option Sx := match lv.getD i none with
  | some (.inl z) => some (lv, aI z :: st, h)
  | _ => none
def ldL (lv : List (Option AV)) (st : List AV) (h : Hp) (i : Nat) : Option Sx := match lv.getD i none with
  | some (.inr (.inl z)) => some (lv, aL z :: st, h)
  | _ => none
def ldA (lv : List (Option AV)) (st : List AV) (h : Hp) (i : Nat) : Option Sx := match lv.getD i none with
  | some (.inr (.inr o)) => some (lv, aO o :: st, h)
  | _ => none
def stI (lv : List (Option AV)) (st : List AV) (h : Hp) (i : Nat) : Option Sx := match st with
  | .inl z :: r => if i < lv.length then some (st1 lv i (aI z), r, h) else none
  | _ => none
def stL (lv : List (Option AV)) (st : List AV) (h : Hp) (i : Nat) : Option Sx := match st with
  | .inr (.inl z) :: r => if i + 1 < lv.length then some (st2 lv i (aL z), r, h) else none
  | _ => none
def stA (lv : List (Option AV)) (st : List AV) (h : Hp) (i : Nat) : Option Sx := match st with
  | .inr (.inr o) :: r => if i < lv.length then some (st1 lv i (aO o), r, h) else none
  | _ => none
def isW (v : AV) : Bool := match v with
  | .inr (.inl _) => true
  | _ => false
def sxPut (o : Nat) (F : Fx) (lv : List (Option AV)) (st : List AV) (h : Hp) (idx : Nat) : Option Sx := match lkF o idx with
  | some (_, ci, j, _) => match st with
    | .inl z :: .inr (.inr (some a)) :: r => if a < F.1 ∧ a < 1000 ∧ kd a = ci ∧ ft ci j = 0 ∧ fin_ ci j = false then some (lv, r, setH h a j z) else none
    | .inr (.inl z) :: .inr (.inr (some a)) :: r => if a < F.1 ∧ a < 1000 ∧ kd a = ci ∧ ft ci j = 1 ∧ fin_ ci j = false then some (lv, r, setH h a j z) else none
    | _ => none
  | none => none
def sxGet (o : Nat) (F : Fx) (lv : List (Option AV)) (st : List AV) (h : Hp) (idx : Nat) : Option Sx := match lkF o idx with
  | some (_, ci, j, _) => match st with
    | .inr (.inr (some a)) :: r => if a < F.1 ∧ a < 1000 ∧ kd a = ci then match ft ci j with
      | 0 => some (lv, aI (h a j) :: r, h)
      | 1 => some (lv, aL (h a j) :: r, h)
      | 2 => match F.2 a j with
        | some x => if x < 1000 then some (lv, aR x :: r, h) else none
        | none => some (lv, aN :: r, h)
      | _ => some (lv, aI (h a j) :: r, h)
      else none
    | _ => none
  | none => none
def st' (lv : List (Option AV)) (h : Hp) (x : Option (List AV)) : Option Sx := x.map (fun s => (lv, s, h))
def sx1 (o : Nat) (F : Fx) (lv : List (Option AV)) (st : List AV) (h : Hp) (len : Nat) (i : Instr) : Option Sx := match i with
  | .iload_n n => if len = 1 then ldI lv st h n.val else none
  | .iload n => if len = 2 then ldI lv st h n else none
  | .lload_n n => if len = 1 then ldL lv st h n.val else none
  | .lload n => if len = 2 then ldL lv st h n else none
  | .aload_n n => if len = 1 then ldA lv st h n.val else none
  | .aload n => if len = 2 then ldA lv st h n else none
  | .istore_n n => if len = 1 then stI lv st h n.val else none
  | .istore n => if len = 2 then stI lv st h n else none
  | .lstore_n n => if len = 1 then stL lv st h n.val else none
  | .lstore n => if len = 2 then stL lv st h n else none
  | .astore_n n => if len = 1 then stA lv st h n.val else none
  | .astore n => if len = 2 then stA lv st h n else none
  | .iconst n => if len = 1 then some (lv, aI n :: st, h) else none
  | .bipush n => if len = 2 ∧ -128 ≤ n ∧ n < 128 then some (lv, aI n :: st, h) else none
  | .sipush n => if len = 3 ∧ -32768 ≤ n ∧ n < 32768 then some (lv, aI n :: st, h) else none
  | .lconst n => if len = 1 then some (lv, aL (n.val : Int) :: st, h) else none
  | .ldc idx => if len = 2 then match kiF o idx with
    | some (_, _, v, _) => some (lv, aI v :: st, h)
    | none => none
    else none
  | .ldc_w idx => if len = 3 then match kiF o idx with
    | some (_, _, v, _) => some (lv, aI v :: st, h)
    | none => none
    else none
  | .ldc2_w idx => if len = 3 then match klF o idx with
    | some (_, _, v, _) => some (lv, aL v :: st, h)
    | none => none
    else none
  | .aconst_null => if len = 1 then some (lv, aN :: st, h) else none
  | .iadd => if len = 1 then st' lv h (bin32 (fun x y => x + y) st) else none
  | .isub => if len = 1 then st' lv h (bin32 (fun x y => x - y) st) else none
  | .imul => if len = 1 then st' lv h (bin32 (fun x y => x * y) st) else none
  | .iand => if len = 1 then st' lv h (bin32 and32 st) else none
  | .ior => if len = 1 then st' lv h (bin32 or32 st) else none
  | .ixor => if len = 1 then st' lv h (bin32 xor32 st) else none
  | .ishl => if len = 1 then st' lv h (bin32 shl32 st) else none
  | .ishr => if len = 1 then st' lv h (bin32 shr32 st) else none
  | .iushr => if len = 1 then st' lv h (bin32 ushr32 st) else none
  | .ineg => if len = 1 then st' lv h (un32 (fun x => aI (-x)) st) else none
  | .i2l => if len = 1 then st' lv h (un32 (fun x => aL (w32 x)) st) else none
  | .i2b => if len = 1 then st' lv h (un32 (fun x => aI (b8 x)) st) else none
  | .i2c => if len = 1 then st' lv h (un32 (fun x => aI (c16 x)) st) else none
  | .l2i => if len = 1 then st' lv h (un64 (fun x => aI (l2i x)) st) else none
  | .ladd => if len = 1 then st' lv h (bin64 (fun x y => aL (x + y)) st) else none
  | .lsub => if len = 1 then st' lv h (bin64 (fun x y => aL (x - y)) st) else none
  | .lmul => if len = 1 then st' lv h (bin64 (fun x y => aL (x * y)) st) else none
  | .land => if len = 1 then st' lv h (bin64 (fun x y => aL (and64 x y)) st) else none
  | .lor => if len = 1 then st' lv h (bin64 (fun x y => aL (or64 x y)) st) else none
  | .lxor => if len = 1 then st' lv h (bin64 (fun x y => aL (xor64 x y)) st) else none
  | .lcmp => if len = 1 then st' lv h (bin64 (fun x y => aI (cmp64 x y)) st) else none
  | .lshl => if len = 1 then st' lv h (shf64 shl64 st) else none
  | .lshr => if len = 1 then st' lv h (shf64 shr64 st) else none
  | .lushr => if len = 1 then st' lv h (shf64 ushr64 st) else none
  | .dup => if len = 1 then match st with
    | v :: r => if isW v = false then some (lv, v :: v :: r, h) else none
    | _ => none
    else none
  | .dup2 => if len = 1 then match st with
    | v :: w :: r => if isW v = false ∧ isW w = false then some (lv, v :: w :: v :: w :: r, h) else none
    | _ => none
    else none
  | .pop => if len = 1 then match st with
    | v :: r => if isW v = false then some (lv, r, h) else none
    | _ => none
    else none
  | .iinc n z => if len = 3 then match lv.getD n none with
    | some (.inl x) => if n < lv.length then some (st1 lv n (aI (x + z)), st, h) else none
    | _ => none
    else none
  | .getfield idx => if len = 3 then sxGet o F lv st h idx else none
  | .putfield idx => if len = 3 then sxPut o F lv st h idx else none
  | _ => none
theorem getD_some {lv : List (Option AV)} {i : Nat} {v : AV} (h : lv.getD i none = some v) : lv[i]? = some (some v) := by
  rw [List.getD_eq_getElem?_getD] at h
  cases e : lv[i]? with
  | none => rw [e] at h; cases h
  | some x => rw [e] at h; exact congrArg some h
theorem cl_vw : ∀ ci, ci < 13 → vwCl[ci]? = some (clR ci, clT ci, clN ci) := by
  intro ci hci
  match ci, hci with
  | 0, _ => rfl
  | 1, _ => rfl
  | 2, _ => rfl
  | 3, _ => rfl
  | 4, _ => rfl
  | 5, _ => rfl
  | 6, _ => rfl
  | 7, _ => rfl
  | 8, _ => rfl
  | 9, _ => rfl
  | 10, _ => rfl
  | 11, _ => rfl
  | 12, _ => rfl
theorem cl_in : ∀ ci, ci < 13 → ∀ w ∈ u_ws (clR ci) (clT ci) (clN ci), w ∈ GW := by
  intro ci hci
  match ci, hci with
  | 0, _ => exact iWX0
  | 1, _ => exact iWX1
  | 2, _ => exact iWX2
  | 3, _ => exact iWX3
  | 4, _ => exact iWX4
  | 5, _ => exact iWX5
  | 6, _ => exact iWX6
  | 7, _ => exact iWX7
  | 8, _ => exact iWX8
  | 9, _ => exact iWX9
  | 10, _ => exact iWX10
  | 11, _ => exact iWX11
  | 12, _ => exact iWX12
theorem cl_ty : ∀ ci, ci < 13 → ∀ k, k < clN ci → parseFieldDescriptor (clT ci k).2.2.1 = some (clY ci k) := by
  intro ci hci
  match ci, hci with
  | 0, _ => exact tyX0_ok
  | 1, _ => exact tyX1_ok
  | 2, _ => exact tyX2_ok
  | 3, _ => exact tyX3_ok
  | 4, _ => exact tyX4_ok
  | 5, _ => exact tyX5_ok
  | 6, _ => exact tyX6_ok
  | 7, _ => exact tyX7_ok
  | 8, _ => exact tyX8_ok
  | 9, _ => exact tyX9_ok
  | 10, _ => exact tyX10_ok
  | 11, _ => exact tyX11_ok
  | 12, _ => exact tyX12_ok
theorem cl_nm : ∀ ci, ci < 13 → ∀ a, a < clN ci → ∀ b, b < clN ci → a ≠ b → (clT ci a).2.1 ≠ (clT ci b).2.1 := by
  intro ci hci
  match ci, hci with
  | 0, _ => exact nmX0
  | 1, _ => exact nmX1
  | 2, _ => exact nmX2
  | 3, _ => exact nmX3
  | 4, _ => exact nmX4
  | 5, _ => exact nmX5
  | 6, _ => exact nmX6
  | 7, _ => exact nmX7
  | 8, _ => exact nmX8
  | 9, _ => exact nmX9
  | 10, _ => exact nmX10
  | 11, _ => exact nmX11
  | 12, _ => exact nmX12
theorem cl_own : (List.range 13).all (fun ci => (List.range (clN ci)).all (fun j => decide ((clT ci j).1 = clR ci))) = true := by decide +kernel
theorem cl_own' {ci j : Nat} (h : ci < 13) (hj : j < clN ci) : (clT ci j).1 = clR ci := by
  have h1 := List.all_eq_true.mp (List.all_eq_true.mp cl_own ci (List.mem_range.mpr h)) j (List.mem_range.mpr hj)
  simpa using h1
/-- what a kind says of the field's type -/
theorem cl_ft : (List.range 13).all (fun ci => (List.range (clN ci)).all (fun j => decide ((ft ci j = 0 → clY ci j = .int) ∧ (ft ci j = 1 → clY ci j = .long) ∧ (ft ci j = 3 → clY ci j = .boolean)))) = true := by decide +kernel
theorem cl_ft' {ci j : Nat} (h : ci < 13) (hj : j < clN ci) : (ft ci j = 0 → clY ci j = .int) ∧ (ft ci j = 1 → clY ci j = .long) ∧ (ft ci j = 3 → clY ci j = .boolean) := by
  have h1 := List.all_eq_true.mp (List.all_eq_true.mp cl_ft ci (List.mem_range.mpr h)) j (List.mem_range.mpr hj)
  exact of_decide_eq_true h1
theorem lk_spec {o idx i0 ci j i : Nat} (ho : o < 13) (h : lkF o idx = some (i0, ci, j, i)) : .fieldLink (clR o) idx (clR ci) (clT ci j).2.1 (clT ci j).2.2.1 ∈ GW ∧ j < clN ci ∧ ci < 13 := by
  have h1 := List.all_eq_true.mp lk_all o (List.mem_range.mpr ho)
  have h2 := List.all_eq_true.mp h1 _ (List.mem_of_find?_eq_some h)
  have h3 : i0 = idx := by simpa using List.find?_some h
  simp only [Bool.and_eq_true, decide_eq_true_eq] at h2
  subst h3
  exact ⟨mem_GW _ h2.1.1.1 h2.1.1.2, h2.1.2, h2.2⟩
theorem lk_lt {o idx : Nat} {e : Nat × Nat × Nat × Nat} (h : lkF o idx = some e) : o < 13 := by
  by_cases ho : o < 13
  · exact ho
  · unfold lkF at h
    rw [List.getD_eq_getElem?_getD, List.getElem?_eq_none (by show lkL.length ≤ o; have : lkL.length = 13 := rfl; omega)] at h
    cases h
theorem ki_spec {o idx o' i' i : Nat} {v : Int} (h : kiF o idx = some (o', i', v, i)) : .constant (clR o) idx (Int32.ofInt v) ∈ GW := by
  have h1 := List.all_eq_true.mp ki_all _ (List.mem_of_find?_eq_some h)
  have h2 := List.find?_some (p := fun e : Nat × Nat × Int × Nat => e.1 == o && e.2.1 == idx) h
  simp only [Bool.and_eq_true, beq_iff_eq] at h2
  simp only [Bool.and_eq_true, decide_eq_true_eq] at h1
  obtain ⟨rfl, rfl⟩ := h2
  exact mem_GW _ h1.1 h1.2
theorem kl_spec {o idx o' i' i : Nat} {v : Int} (h : klF o idx = some (o', i', v, i)) : .constantLong (clR o) idx (Int64.ofInt v) ∈ GW := by
  have h1 := List.all_eq_true.mp kl_all _ (List.mem_of_find?_eq_some h)
  have h2 := List.find?_some (p := fun e : Nat × Nat × Int × Nat => e.1 == o && e.2.1 == idx) h
  simp only [Bool.and_eq_true, beq_iff_eq] at h2
  simp only [Bool.and_eq_true, decide_eq_true_eq] at h1
  obtain ⟨rfl, rfl⟩ := h2
  exact mem_GW _ h1.1 h1.2
/-- a store into a field, with the size of the heap -/
theorem put_row {p : Program} {l : Launch} {e : Env} {R : Room} {s : State} {m : MethodId} {args : Array Value} {below : List Frame} {meth : Method} {c : Code} {H : Heap} {locs : List Loc} {cells slots : Nat} {Q : State → Prop}
    {cc : ByteArray} {pc : Nat} {ls : Array Slot} {rest : List Value} {D : va_G} {A : Nat → Prop} {a : Nat} {tys : List (ClassId × FieldType)} {ws : va_W} {H0 : Heap}
    (hexec : p.tables.exec = Jvm.exec) (hb : c.code = cc) {o ci k index : Nat} (hci : ci < 13) (hts : ∀ w ∈ GW, w.before args s = true) (hown : s.vm.findClass (clR o) = some m.cls) (hK : va_K D vwCl tys s) (hP : va_P D vwCl ws H) (hD : va_D A ws) (hS0 : va_S A H0 H locs) (q0 : Nat) {fs : List Value} (he : ws[q0]? = some (a, .inr (ci, fs))) (hk : k < clN ci) (hlink : .fieldLink (clR o) index (clR ci) (clT ci k).2.1 (clT ci k).2.2.1 ∈ GW) (hfin : fin_ ci k = false ∨ (o = ci ∧ meth.name = "<init>")) {v : Value} (hn : narrow (clY ci k) v = v) (hfit : fits (clY ci k) v = true) (hl : k < fs.length)
    (hdg : decode cc pc = .ok (.putfield index, 3)) (kk : ∀ (H1 : Heap) (locs1 : List Loc), H1.size = H.size → va_P D vwCl (ws.set q0 (a, .inr (ci, fs.set k v))) H1 → va_S A H0 H1 locs1 → W p l e R s m args below meth c H1 locs1 cells slots Q (F0 m (pc + 3) ls rest)) : W p l e R s m args below meth c H locs cells slots Q (F0 m pc ls (v :: .ref a :: rest)) := by
  have hc := cl_vw ci hci
  have hin := cl_in ci hci
  have hap := va_apart (own := clR o) hts hin (clY ci) (cl_ty ci hci) (cl_nm ci hci) hK hc
  have hsame : ∀ x, s.fieldFound? (clT ci k).1 (clT ci k).2.1 (clT ci k).2.2.1 = some x → s.fieldFound? (clR ci) (clT ci k).2.1 (clT ci k).2.2.1 = some x := fun x h => by rw [cl_own' hci hk] at h; exact h
  obtain ⟨r, h1, cell, q1, q2, q3, q4⟩ := hP q0 _ he
  have hr : r = (clR ci, clT ci, clN ci) := Option.some.inj (h1.symm.trans hc)
  subst hr
  obtain ⟨hS, hfc, kC, hkC, hkind⟩ := hK.1 ci _ hc
  obtain ⟨cf, kf, fi, f, hi, hsl⟩ := hS k hk
  have hst := (u_facts hfc hkC (u_lays hts hin hk) hi).1
  have fin : ∀ H' : Heap, H'[a]? = some (cell.setSlot f.slot v) → H'.size = H.size → (∀ q, q ≠ a → H'[q]? = H[q]?) → W p l e R s m args below meth c H' (locs ++ [⟨a, f.slot⟩]) cells slots Q (F0 m (pc + 3) ls rest) := by
    intro H' e1 e2 e3
    rw [hsl] at e1 ⊢
    exact kk H' _ e2 (hP.set hD he ⟨_, hc, t_OB.to (V := updV (vp_V fs) k v) ⟨_, e1, q2, q3, t_set q4 hap hk v⟩ (fun j _ => vp_updV_set hl v j)⟩ e3) (hS0.put e2 e3 (hD.2 q0 _ he))
  have hlay := hts _ (hin _ (u_in_lay hk))
  unfold u_lay at hlay
  by_cases hf : (clT ci k).2.2.2 = true
  · rw [if_pos hf] at hlay
    rcases hfin with h | ⟨rfl, hin2⟩
    · unfold fin_ at h; rw [hf] at h; cases h
    have hcf : m.cls = cf := by
      obtain ⟨_, _, c', _, _, _, -, -, hf', -, -, -, hown2, -⟩ := Cond.laysFinal_spec hlay
      have e1 : c' = cf := by have := hi.symm.trans hf'; simp at this; exact this.1.symm
      rw [cl_own' hci hk] at hown2
      rw [← e1]; exact Option.some.inj (hown.symm.trans hown2)
    have h6 := u_fits hfc hkC hkind (Or.inr hlay) hi (cl_ty o hci k hk) hn hfit
    exact W.putFinK hexec hb hown (hts _ hlink) (hsame _ hi) hst hcf hin2 (by rw [q2]; exact h6) q1 q3 (by rw [hsl]; exact k2_hasslot (q4 k hk)) rfl rfl hdg fin
  · rw [if_neg hf] at hlay
    have h6 := u_store hfc hkC hkind hlay hi (cl_ty ci hci k hk) hn hfit
    exact W.putK hexec hb (f := f) ⟨hown, hts _ hlink, ⟨_, _, _, hsame _ hi⟩, hst⟩ (by rw [q2]; exact h6) q1 q3 (by rw [hsl]; exact k2_hasslot (q4 k hk)) rfl rfl hdg fin
