section STP
variable {p : Program} {l : Launch} {e : Env} {R : Room} {s : State} {m : MethodId} {args : Array Value} {below : List Frame} {meth : Method} {c : Code} {cells slots : Nat} {Q : State → Prop}
variable {D : va_G} {cy : Nat → ClassId} {b0 : Nat} {aS aV : Nat → Nat} {F : Fx} {h h1 : Hp} {lv lv1 : List (Option AV)} {st s1 : List AV} {cc : ByteArray} {o pc nL : Nat} {ret : Option FieldType} {H : Heap} {locs : List Loc} {ls : Array Slot}
theorem ldI_inv {i : Nat} {x : Sx} (hs : ldI lv st h i = some x) : ∃ z, lv[i]? = some (some (.inl z)) ∧ x = (lv, aI z :: st, h) := by
  unfold ldI at hs
  split at hs
  · rename_i z hz
    cases hs
    exact ⟨z, getD_some hz, rfl⟩
  · cases hs
theorem ldL_inv {i : Nat} {x : Sx} (hs : ldL lv st h i = some x) : ∃ z, lv[i]? = some (some (.inr (.inl z))) ∧ x = (lv, aL z :: st, h) := by
  unfold ldL at hs
  split at hs
  · rename_i z hz
    cases hs
    exact ⟨z, getD_some hz, rfl⟩
  · cases hs
theorem ldA_inv {i : Nat} {x : Sx} (hs : ldA lv st h i = some x) : ∃ z, lv[i]? = some (some (.inr (.inr z))) ∧ x = (lv, aO z :: st, h) := by
  unfold ldA at hs
  split at hs
  · rename_i z hz
    cases hs
    exact ⟨z, getD_some hz, rfl⟩
  · cases hs
theorem stI_inv {i : Nat} {x : Sx} (hs : stI lv st h i = some x) : ∃ z r, st = .inl z :: r ∧ i < lv.length ∧ x = (st1 lv i (aI z), r, h) := by
  unfold stI at hs
  split at hs
  · split at hs
    · rename_i z r hi
      cases hs
      exact ⟨z, r, rfl, hi, rfl⟩
    · cases hs
  · cases hs
theorem stL_inv {i : Nat} {x : Sx} (hs : stL lv st h i = some x) : ∃ z r, st = .inr (.inl z) :: r ∧ i + 1 < lv.length ∧ x = (st2 lv i (aL z), r, h) := by
  unfold stL at hs
  split at hs
  · split at hs
    · rename_i z r hi
      cases hs
      exact ⟨z, r, rfl, hi, rfl⟩
    · cases hs
  · cases hs
theorem stA_inv {i : Nat} {x : Sx} (hs : stA lv st h i = some x) : ∃ z r, st = .inr (.inr z) :: r ∧ i < lv.length ∧ x = (st1 lv i (aO z), r, h) := by
  unfold stA at hs
  split at hs
  · split at hs
    · rename_i z r hi
      cases hs
      exact ⟨z, r, rfl, hi, rfl⟩
    · cases hs
  · cases hs
theorem st'_inv {x : Option (List AV)} {y : Sx} (hs : st' lv h x = some y) : ∃ z, x = some z ∧ y = (lv, z, h) := by
  unfold st' at hs
  cases x with
  | none => cases hs
  | some z => cases hs; exact ⟨z, rfl, rfl⟩
theorem cvO (q : Option Nat) : cv b0 aS (aO q) = va_rf (q.map (ad b0 aS)) := by cases q <;> rfl
theorem cat1 {v : AV} (h : isW v = false) : (cv b0 aS v).category = 1 := by
  rcases v with z | z | q
  · rfl
  · cases h
  · cases q <;> rfl
theorem if_inv {P : Prop} (dP : Decidable P) {x : Option Sx} {y : Sx} (h : (if P then x else none) = some y) : P ∧ x = some y := by
  split at h
  · rename_i hp; exact ⟨hp, h⟩
  · cases h
/-- one plain instruction: what the abstract machine does, the machine does -/
theorem sx1_ok (len : Nat) (i : Instr) (hx : p.tables.exec = Jvm.exec) (hb : c.code = cc) (hown : s.vm.findClass (clR o) = some m.cls) (hts : ∀ w ∈ GW, w.before args s = true) (hK : va_K D vwCl (tysL cy) s)
    (hd : decode cc pc = .ok (i, len)) (hs : sx1 o F lv st h len i = some (lv1, s1, h1)) (hW : Wd (l, D, cy, b0, aS, aV) F h H) (hS : va_S (fun q : Nat => b0 ≤ q) s.heap H locs) (hL : LV (cv b0 aS) ls lv.length lv)
    (kk : ∀ (H1 : Heap) (locs1 : List Loc) (ls1 : Array Slot), lv1.length = lv.length → Wd (l, D, cy, b0, aS, aV) F h1 H1 → va_S (fun q : Nat => b0 ≤ q) s.heap H1 locs1 → LV (cv b0 aS) ls1 lv1.length lv1 → W p l e R s m args below meth c H1 locs1 cells slots Q (F0 m (pc + len) ls1 (s1.map (cv b0 aS)))) : W p l e R s m args below meth c H locs cells slots Q (F0 m pc ls (st.map (cv b0 aS))) := by
  cases i
  case iload_n n =>
    obtain ⟨rfl, hs2⟩ := if_inv _ hs
    obtain ⟨z, hz, hq⟩ := ldI_inv hs2
    cases hq
    exact lv_iload_n hx hb hd rfl (hL.2.2.2 _ _ hz) (kk _ _ _ rfl hW hS hL)
  case iload n =>
    obtain ⟨rfl, hs2⟩ := if_inv _ hs
    obtain ⟨z, hz, hq⟩ := ldI_inv hs2
    cases hq
    exact lv_iload hx hb hd (hL.2.2.2 _ _ hz) (kk _ _ _ rfl hW hS hL)
  case lload_n n =>
    obtain ⟨rfl, hs2⟩ := if_inv _ hs
    obtain ⟨z, hz, hq⟩ := ldL_inv hs2
    cases hq
    exact lv_lload_n hx hb hd rfl (hL.2.2.2 _ _ hz) (kk _ _ _ rfl hW hS hL)
  case lload n =>
    obtain ⟨rfl, hs2⟩ := if_inv _ hs
    obtain ⟨z, hz, hq⟩ := ldL_inv hs2
    cases hq
    exact lv_lload hx hb hd (hL.2.2.2 _ _ hz) (kk _ _ _ rfl hW hS hL)
  case aload_n n =>
    obtain ⟨rfl, hs2⟩ := if_inv _ hs
    obtain ⟨z, hz, hq⟩ := ldA_inv hs2
    cases hq
    have h9 := hL.2.2.2 _ _ hz
    have k9 := kk _ _ _ rfl hW hS hL
    cases z with
    | none => exact lv_aload_nN hx hb hd rfl h9 k9
    | some a => exact lv_aload_n hx hb hd rfl h9 k9
  case aload n =>
    obtain ⟨rfl, hs2⟩ := if_inv _ hs
    obtain ⟨z, hz, hq⟩ := ldA_inv hs2
    cases hq
    have h9 := hL.2.2.2 _ _ hz
    have k9 := kk _ _ _ rfl hW hS hL
    cases z with
    | none => exact lv_aloadN hx hb hd h9 k9
    | some a => exact lv_aload hx hb hd h9 k9
  case istore_n n =>
    obtain ⟨rfl, hs2⟩ := if_inv _ hs
    obtain ⟨z, r, rfl, hi, hq⟩ := stI_inv hs2
    cases hq
    exact lv_istore_n hx hb hd rfl hL.has hi rfl (fun ls1 h9 => kk _ _ _ (st1_len _ _ _) hW hS (by rw [st1_len]; exact st1_LV rfl rfl h9))
  case istore n =>
    obtain ⟨rfl, hs2⟩ := if_inv _ hs
    obtain ⟨z, r, rfl, hi, hq⟩ := stI_inv hs2
    cases hq
    exact lv_istore hx hb hd hL.has hi rfl (fun ls1 h9 => kk _ _ _ (st1_len _ _ _) hW hS (by rw [st1_len]; exact st1_LV rfl rfl h9))
  case lstore_n n =>
    obtain ⟨rfl, hs2⟩ := if_inv _ hs
    obtain ⟨z, r, rfl, hi, hq⟩ := stL_inv hs2
    cases hq
    exact lv_lstore_n hx hb hd rfl hL.has hi rfl (fun ls1 h9 => kk _ _ _ (st2_len _ _ _) hW hS (by rw [st2_len]; exact st2_LV rfl rfl h9))
  case lstore n =>
    obtain ⟨rfl, hs2⟩ := if_inv _ hs
    obtain ⟨z, r, rfl, hi, hq⟩ := stL_inv hs2
    cases hq
    exact lv_lstore hx hb hd hL.has hi rfl (fun ls1 h9 => kk _ _ _ (st2_len _ _ _) hW hS (by rw [st2_len]; exact st2_LV rfl rfl h9))
  case astore_n n =>
    obtain ⟨rfl, hs2⟩ := if_inv _ hs
    obtain ⟨z, r, rfl, hi, hq⟩ := stA_inv hs2
    cases hq
    cases z with
    | none => exact lv_astore_nN hx hb hd rfl hL.has hi rfl (fun ls1 h9 => kk _ _ _ (st1_len _ _ _) hW hS (by rw [st1_len]; exact st1_LV rfl rfl h9))
    | some a => exact lv_astore_n hx hb hd rfl hL.has hi rfl (fun ls1 h9 => kk _ _ _ (st1_len _ _ _) hW hS (by rw [st1_len]; exact st1_LV rfl rfl h9))
  case astore n =>
    obtain ⟨rfl, hs2⟩ := if_inv _ hs
    obtain ⟨z, r, rfl, hi, hq⟩ := stA_inv hs2
    cases hq
    cases z with
    | none => exact lv_astoreN hx hb hd hL.has hi rfl (fun ls1 h9 => kk _ _ _ (st1_len _ _ _) hW hS (by rw [st1_len]; exact st1_LV rfl rfl h9))
    | some a => exact lv_astore hx hb hd hL.has hi rfl (fun ls1 h9 => kk _ _ _ (st1_len _ _ _) hW hS (by rw [st1_len]; exact st1_LV rfl rfl h9))
  case iconst n =>
    obtain ⟨rfl, hs2⟩ := if_inv _ hs
    cases hs2
    exact lv_iconst hx hb hd rfl (kk _ _ _ rfl hW hS hL)
  case bipush n =>
    obtain ⟨⟨rfl, g1, g2⟩, hs2⟩ := if_inv _ hs
    cases hs2
    exact lv_bipush hx hb hd (by
      apply Int32.toInt_inj.mp
      rw [Int8.toInt_toInt32, Int8.toInt_ofInt_of_le (by omega) (by omega), Int32.toInt_ofInt_of_le (by omega) (by omega)]) (kk _ _ _ rfl hW hS hL)
  case sipush n =>
    obtain ⟨⟨rfl, g1, g2⟩, hs2⟩ := if_inv _ hs
    cases hs2
    exact lv_sipush hx hb hd (by
      apply Int32.toInt_inj.mp
      rw [Int16.toInt_toInt32, Int16.toInt_ofInt_of_le (by omega) (by omega), Int32.toInt_ofInt_of_le (by omega) (by omega)]) (kk _ _ _ rfl hW hS hL)
  case lconst n =>
    obtain ⟨rfl, hs2⟩ := if_inv _ hs
    cases hs2
    exact lv_lconst hx hb hd (by rfl) (kk _ _ _ rfl hW hS hL)
  case ldc idx =>
    obtain ⟨rfl, hs2⟩ := if_inv _ hs
    split at hs2
    · rename_i hk
      cases hs2
      exact lv_ldc hx hb hown (hts _ (ki_spec hk)) hd (kk _ _ _ rfl hW hS hL)
    · cases hs2
  case ldc_w idx =>
    obtain ⟨rfl, hs2⟩ := if_inv _ hs
    split at hs2
    · rename_i hk
      cases hs2
      exact lv_ldcw hx hb hown (hts _ (ki_spec hk)) hd (kk _ _ _ rfl hW hS hL)
    · cases hs2
  case ldc2_w idx =>
    obtain ⟨rfl, hs2⟩ := if_inv _ hs
    split at hs2
    · rename_i hk
      cases hs2
      exact lv_ldc2 hx hb hown (hts _ (kl_spec hk)) hd (kk _ _ _ rfl hW hS hL)
    · cases hs2
  case aconst_null =>
    obtain ⟨rfl, hs2⟩ := if_inv _ hs
    cases hs2
    exact lv_null hx hb hd (kk _ _ _ rfl hW hS hL)
  case iadd =>
    obtain ⟨rfl, hs2⟩ := if_inv _ hs
    obtain ⟨z, hz, hq⟩ := st'_inv hs2
    obtain ⟨x, y, r, rfl, rfl⟩ := bin32_inv hz
    cases hq
    refine lv_iadd hx hb hd ?_
    rw [← i32_add]
    exact kk _ _ _ rfl hW hS hL
  case isub =>
    obtain ⟨rfl, hs2⟩ := if_inv _ hs
    obtain ⟨z, hz, hq⟩ := st'_inv hs2
    obtain ⟨x, y, r, rfl, rfl⟩ := bin32_inv hz
    cases hq
    refine lv_isub hx hb hd ?_
    rw [← i32_sub]
    exact kk _ _ _ rfl hW hS hL
  case imul =>
    obtain ⟨rfl, hs2⟩ := if_inv _ hs
    obtain ⟨z, hz, hq⟩ := st'_inv hs2
    obtain ⟨x, y, r, rfl, rfl⟩ := bin32_inv hz
    cases hq
    refine lv_imul hx hb hd ?_
    rw [← i32_mul]
    exact kk _ _ _ rfl hW hS hL
  case iand =>
    obtain ⟨rfl, hs2⟩ := if_inv _ hs
    obtain ⟨z, hz, hq⟩ := st'_inv hs2
    obtain ⟨x, y, r, rfl, rfl⟩ := bin32_inv hz
    cases hq
    refine lv_iand hx hb hd ?_
    rw [← i32_of (_ &&& _)]
    exact kk _ _ _ rfl hW hS hL
  case ior =>
    obtain ⟨rfl, hs2⟩ := if_inv _ hs
    obtain ⟨z, hz, hq⟩ := st'_inv hs2
    obtain ⟨x, y, r, rfl, rfl⟩ := bin32_inv hz
    cases hq
    refine lv_ior hx hb hd ?_
    rw [← i32_of (_ ||| _)]
    exact kk _ _ _ rfl hW hS hL
  case ixor =>
    obtain ⟨rfl, hs2⟩ := if_inv _ hs
    obtain ⟨z, hz, hq⟩ := st'_inv hs2
    obtain ⟨x, y, r, rfl, rfl⟩ := bin32_inv hz
    cases hq
    refine lv_ixor hx hb hd ?_
    rw [← i32_of (_ ^^^ _)]
    exact kk _ _ _ rfl hW hS hL
  case ishl =>
    obtain ⟨rfl, hs2⟩ := if_inv _ hs
    obtain ⟨z, hz, hq⟩ := st'_inv hs2
    obtain ⟨x, y, r, rfl, rfl⟩ := bin32_inv hz
    cases hq
    refine lv_ishl hx hb hd ?_
    rw [← i32_of (_ <<< _)]
    exact kk _ _ _ rfl hW hS hL
  case ishr =>
    obtain ⟨rfl, hs2⟩ := if_inv _ hs
    obtain ⟨z, hz, hq⟩ := st'_inv hs2
    obtain ⟨x, y, r, rfl, rfl⟩ := bin32_inv hz
    cases hq
    refine lv_ishr hx hb hd ?_
    rw [← i32_of (_ >>> _)]
    exact kk _ _ _ rfl hW hS hL
  case iushr =>
    obtain ⟨rfl, hs2⟩ := if_inv _ hs
    obtain ⟨z, hz, hq⟩ := st'_inv hs2
    obtain ⟨x, y, r, rfl, rfl⟩ := bin32_inv hz
    cases hq
    exact lv_iushr hx hb hd (i32_of _).symm (kk _ _ _ rfl hW hS hL)
  case ineg =>
    obtain ⟨rfl, hs2⟩ := if_inv _ hs
    obtain ⟨z, hz, hq⟩ := st'_inv hs2
    obtain ⟨x, r, rfl, rfl⟩ := un32_inv hz
    cases hq
    refine lv_ineg hx hb hd ?_
    rw [← i32_neg]
    exact kk _ _ _ rfl hW hS hL
  case i2l =>
    obtain ⟨rfl, hs2⟩ := if_inv _ hs
    obtain ⟨z, hz, hq⟩ := st'_inv hs2
    obtain ⟨x, r, rfl, rfl⟩ := un32_inv hz
    cases hq
    exact lv_i2l hx hb hd (i64_w32 x).symm (kk _ _ _ rfl hW hS hL)
  case i2b =>
    obtain ⟨rfl, hs2⟩ := if_inv _ hs
    obtain ⟨z, hz, hq⟩ := st'_inv hs2
    obtain ⟨x, r, rfl, rfl⟩ := un32_inv hz
    cases hq
    exact lv_i2b hx hb hd (i32_of _).symm (kk _ _ _ rfl hW hS hL)
  case i2c =>
    obtain ⟨rfl, hs2⟩ := if_inv _ hs
    obtain ⟨z, hz, hq⟩ := st'_inv hs2
    obtain ⟨x, r, rfl, rfl⟩ := un32_inv hz
    cases hq
    exact lv_i2c hx hb hd (i32_of _).symm (kk _ _ _ rfl hW hS hL)
  case l2i =>
    obtain ⟨rfl, hs2⟩ := if_inv _ hs
    obtain ⟨z, hz, hq⟩ := st'_inv hs2
    obtain ⟨x, r, rfl, rfl⟩ := un64_inv hz
    cases hq
    exact lv_l2i hx hb hd (i32_of _).symm (kk _ _ _ rfl hW hS hL)
  case ladd =>
    obtain ⟨rfl, hs2⟩ := if_inv _ hs
    obtain ⟨z, hz, hq⟩ := st'_inv hs2
    obtain ⟨x, y, r, rfl, rfl⟩ := bin64_inv hz
    cases hq
    refine lv_ladd hx hb hd ?_
    rw [← i64_add]
    exact kk _ _ _ rfl hW hS hL
  case lsub =>
    obtain ⟨rfl, hs2⟩ := if_inv _ hs
    obtain ⟨z, hz, hq⟩ := st'_inv hs2
    obtain ⟨x, y, r, rfl, rfl⟩ := bin64_inv hz
    cases hq
    refine lv_lsub hx hb hd ?_
    rw [← i64_sub]
    exact kk _ _ _ rfl hW hS hL
  case lmul =>
    obtain ⟨rfl, hs2⟩ := if_inv _ hs
    obtain ⟨z, hz, hq⟩ := st'_inv hs2
    obtain ⟨x, y, r, rfl, rfl⟩ := bin64_inv hz
    cases hq
    refine lv_lmul hx hb hd ?_
    rw [← i64_mul]
    exact kk _ _ _ rfl hW hS hL
  case land =>
    obtain ⟨rfl, hs2⟩ := if_inv _ hs
    obtain ⟨z, hz, hq⟩ := st'_inv hs2
    obtain ⟨x, y, r, rfl, rfl⟩ := bin64_inv hz
    cases hq
    refine lv_land hx hb hd ?_
    rw [← i64_of (_ &&& _)]
    exact kk _ _ _ rfl hW hS hL
  case lor =>
    obtain ⟨rfl, hs2⟩ := if_inv _ hs
    obtain ⟨z, hz, hq⟩ := st'_inv hs2
    obtain ⟨x, y, r, rfl, rfl⟩ := bin64_inv hz
    cases hq
    refine lv_lor hx hb hd ?_
    rw [← i64_of (_ ||| _)]
    exact kk _ _ _ rfl hW hS hL
  case lxor =>
    obtain ⟨rfl, hs2⟩ := if_inv _ hs
    obtain ⟨z, hz, hq⟩ := st'_inv hs2
    obtain ⟨x, y, r, rfl, rfl⟩ := bin64_inv hz
    cases hq
    refine lv_lxor hx hb hd ?_
    rw [← i64_of (_ ^^^ _)]
    exact kk _ _ _ rfl hW hS hL
  case lcmp =>
    obtain ⟨rfl, hs2⟩ := if_inv _ hs
    obtain ⟨z, hz, hq⟩ := st'_inv hs2
    obtain ⟨x, y, r, rfl, rfl⟩ := bin64_inv hz
    cases hq
    refine W.lcmp hx hb hd ?_
    rw [← i32_of (lg_cmp _ _)]
    exact kk _ _ _ rfl hW hS hL
  case lshl =>
    obtain ⟨rfl, hs2⟩ := if_inv _ hs
    obtain ⟨z, hz, hq⟩ := st'_inv hs2
    obtain ⟨x, y, r, rfl, rfl⟩ := shf64_inv hz
    cases hq
    exact lv_lshl hx hb hd (i64_of _).symm (kk _ _ _ rfl hW hS hL)
  case lshr =>
    obtain ⟨rfl, hs2⟩ := if_inv _ hs
    obtain ⟨z, hz, hq⟩ := st'_inv hs2
    obtain ⟨x, y, r, rfl, rfl⟩ := shf64_inv hz
    cases hq
    exact lv_lshr hx hb hd (i64_of _).symm (kk _ _ _ rfl hW hS hL)
  case lushr =>
    obtain ⟨rfl, hs2⟩ := if_inv _ hs
    obtain ⟨z, hz, hq⟩ := st'_inv hs2
    obtain ⟨x, y, r, rfl, rfl⟩ := shf64_inv hz
    cases hq
    exact lv_lushr hx hb hd (i64_of _).symm (kk _ _ _ rfl hW hS hL)
  case dup =>
    obtain ⟨rfl, hs2⟩ := if_inv _ hs
    split at hs2
    · obtain ⟨hv, hs3⟩ := if_inv _ hs2
      cases hs3
      exact lv_dup hx hb hd (cat1 hv) (kk _ _ _ rfl hW hS hL)
    · cases hs2
  case dup2 =>
    obtain ⟨rfl, hs2⟩ := if_inv _ hs
    split at hs2
    · obtain ⟨hv, hs3⟩ := if_inv _ hs2
      cases hs3
      exact lv_dup2_11 hx hb hd (cat1 hv.1) (cat1 hv.2) (kk _ _ _ rfl hW hS hL)
    · cases hs2
  case pop =>
    obtain ⟨rfl, hs2⟩ := if_inv _ hs
    split at hs2
    · obtain ⟨hv, hs3⟩ := if_inv _ hs2
      cases hs3
      exact lv_pop hx hb hd (cat1 hv) (kk _ _ _ rfl hW hS hL)
    · cases hs2
  case iinc n z =>
    obtain ⟨rfl, hs2⟩ := if_inv _ hs
    split at hs2
    · rename_i x hx1
      obtain ⟨hi, hs3⟩ := if_inv _ hs2
      cases hs3
      obtain ⟨k, hk⟩ := List.getElem?_of_mem (mem_lvl (f := cv b0 aS) (q := (n, .int (Int32.ofInt x))).mpr ⟨_, getD_some hx1, rfl⟩)
      exact lv_iinc hx hb hd hL.has hk (i32_add x z).symm hi rfl (fun ls1 h9 => kk _ _ _ (st1_len _ _ _) hW hS (by rw [st1_len]; exact st1_LV rfl rfl h9))
    · cases hs2
  case getfield idx =>
    obtain ⟨rfl, hs2⟩ := if_inv _ hs
    exact sxGet_ok hx hb hown hts hK hd hs2 hW (fun e1 e2 => by subst e1; subst e2; exact kk _ _ _ rfl hW hS hL)
  case putfield idx =>
    obtain ⟨rfl, hs2⟩ := if_inv _ hs
    exact sxPut_ok hx hb hown hts hK hd hs2 hW hS (fun H1 locs1 e1 h2 h3 => by subst e1; exact kk _ _ _ rfl h2 h3 hL)
  all_goals cases hs
end STP
