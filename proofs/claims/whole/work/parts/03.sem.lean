/-! THE ABSTRACT MACHINE: ints and longs as whole numbers (of which the machine keeps 32 or 64 bits), references as numbers of cells, the heap as a function of cell and place. -/
abbrev AV : Type := Int ⊕ (Int ⊕ Option Nat)
abbrev aI (z : Int) : AV := .inl z
abbrev aL (z : Int) : AV := .inr (.inl z)
abbrev aR (a : Nat) : AV := .inr (.inr (some a))
abbrev aN : AV := .inr (.inr none)
abbrev aO (o : Option Nat) : AV := .inr (.inr o)
abbrev Hp : Type := Nat → Nat → Int
abbrev Fx : Type := Nat × (Nat → Nat → Option Nat)
abbrev IT : Type := Instr × (Nat × Nat)
/-- launch; classes' numbers; array classes by kind; first cell; texts' addresses, their bytes' addresses -/
abbrev Gx : Type := Launch × va_G × (Nat → ClassId) × Nat × (Nat → Nat) × (Nat → Nat)
/-- where a walk stands -/
abbrev Kx : Type := Gx × Program × Env × Room × State × MethodId × Array Value × List Frame × Method × Code × (State → Prop)
def w32 (z : Int) : Int := (Int32.ofInt z).toInt
def w64 (z : Int) : Int := (Int64.ofInt z).toInt
def c16 (z : Int) : Int := ((Int32.ofInt z).toUInt32 % 65536).toInt32.toInt
def b8 (z : Int) : Int := (Int32.ofInt z).toInt8.toInt32.toInt
def l2i (z : Int) : Int := (Int64.ofInt z).toInt32.toInt
def and32 (x y : Int) : Int := (Int32.ofInt x &&& Int32.ofInt y).toInt
def or32 (x y : Int) : Int := (Int32.ofInt x ||| Int32.ofInt y).toInt
def xor32 (x y : Int) : Int := (Int32.ofInt x ^^^ Int32.ofInt y).toInt
def and64 (x y : Int) : Int := (Int64.ofInt x &&& Int64.ofInt y).toInt
def or64 (x y : Int) : Int := (Int64.ofInt x ||| Int64.ofInt y).toInt
def xor64 (x y : Int) : Int := (Int64.ofInt x ^^^ Int64.ofInt y).toInt
def shl32 (x y : Int) : Int := (Int32.ofInt x <<< (Int32.ofInt y &&& 31)).toInt
def shr32 (x y : Int) : Int := (Int32.ofInt x >>> (Int32.ofInt y &&& 31)).toInt
def ushr32 (x y : Int) : Int := ((Int32.ofInt x).toUInt32 >>> ((Int32.ofInt y).toUInt32 &&& Int32.toUInt32 31)).toInt32.toInt
def shl64 (x y : Int) : Int := (Int64.ofInt x <<< ((Int32.ofInt y).toInt64 &&& 63)).toInt
def shr64 (x y : Int) : Int := (Int64.ofInt x >>> ((Int32.ofInt y).toInt64 &&& 63)).toInt
def ushr64 (x y : Int) : Int := ((Int64.ofInt x).toUInt64 >>> ((Int32.ofInt y).toInt64.toUInt64 &&& Int64.toUInt64 63)).toInt64.toInt
def cmp64 (x y : Int) : Int := (lg_cmp (Int64.ofInt x) (Int64.ofInt y)).toInt
def div32 (x y : Int) : Int := (Int32.ofInt x / Int32.ofInt y).toInt
def rem32 (x y : Int) : Int := (Int32.ofInt x - Int32.ofInt x / Int32.ofInt y * Int32.ofInt y).toInt
def div64 (x y : Int) : Int := (Int64.ofInt x / Int64.ofInt y).toInt
def rem64 (x y : Int) : Int := (Int64.ofInt x - Int64.ofInt x / Int64.ofInt y * Int64.ofInt y).toInt
def setH (h : Hp) (a j : Nat) (z : Int) : Hp := fun b i => if b = a ∧ i = j then z else h b i
/-- addresses: a cell of the two sides, or a text (from 1000 on) -/
def ad (b0 : Nat) (aS : Nat → Nat) (a : Nat) : Nat := if a < 1000 then b0 + a else aS (a - 1000)
def cv (b0 : Nat) (aS : Nat → Nat) : AV → Value
  | .inl z => .int (Int32.ofInt z)
  | .inr (.inl z) => .long (Int64.ofInt z)
  | .inr (.inr none) => .null
  | .inr (.inr (some a)) => .ref (ad b0 aS a)
def ft (ci j : Nat) : Nat := (ftT.getD ci []).getD j 2
def fv (b0 : Nat) (r : Nat → Option Nat) (g : Nat → Int) (ci j : Nat) : Value := match ft ci j with
  | 0 => .int (Int32.ofInt (g j))
  | 1 => .long (Int64.ofInt (g j))
  | 2 => va_rf ((r j).map (b0 + ·))
  | _ => .int (Int32.ofInt (g j))
def cellE (cy : Nat → ClassId) (b0 k : Nat) (r : Nat → Option Nat) (g : Nat → Int) : va_E :=
  if kd k < 13 then .inr (kd k, (List.range (clN (kd k))).map (fv b0 r g (kd k)))
  else if kd k = 15 then .inl (cy 15, ln k, .inr (.inl (fun i => Int64.ofInt (g i))))
  else if kd k = 17 then .inl (cy 17, ln k, .inr (.inr (.inr (.inr (fun i => (r i).map (b0 + ·))))))
  else .inl (cy (kd k), ln k, .inl (fun i => Int32.ofInt (g i)))
def WSl (cy : Nat → ClassId) (b0 n : Nat) (rf : Nat → Nat → Option Nat) (h : Hp) : va_W := (List.range n).map (fun k => (b0 + k, cellE cy b0 k (rf k) (h k)))
def tysL (cy : Nat → ClassId) : List (ClassId × FieldType) := [(cy 13, .byte), (cy 14, .int), (cy 15, .long), (cy 16, .boolean), (cy 17, .object RX10)]
theorem map_range_set {α : Type} {n k : Nat} {f g : Nat → α} {v : α} (hk : g k = v) (h : ∀ j, j ≠ k → g j = f j) : ((List.range n).map f).set k v = (List.range n).map g := by
  apply List.ext_getElem?
  intro i
  by_cases hi : i < n
  · by_cases e : i = k
    · subst e
      rw [List.getElem?_set_self (by simpa using hi)]
      simp [hi, hk]
    · rw [List.getElem?_set_ne (fun q => e q.symm)]
      simp [hi, h i e]
  · have h1 : (((List.range n).map f).set k v).length ≤ i := by simp; omega
    have h2 : ((List.range n).map g).length ≤ i := by simp; omega
    rw [List.getElem?_eq_none h1, List.getElem?_eq_none h2]
theorem setH_ne {h : Hp} {a b j : Nat} {z : Int} (hb : b ≠ a) : setH h a j z b = h b := by
  funext i
  unfold setH
  rw [if_neg (fun q => hb q.1)]
theorem WSl_get {cy : Nat → ClassId} {b0 n k : Nat} {rf : Nat → Nat → Option Nat} {h : Hp} (hk : k < n) : (WSl cy b0 n rf h)[k]? = some (b0 + k, cellE cy b0 k (rf k) (h k)) := by
  unfold WSl
  simp [hk]
theorem WSl_set {cy : Nat → ClassId} {b0 n k : Nat} {rf rf' : Nat → Nat → Option Nat} {h h' : Hp} {e : va_E} (he : cellE cy b0 k (rf' k) (h' k) = e) (hn : ∀ j, j ≠ k → h' j = h j) (hr : ∀ j, j ≠ k → rf' j = rf j) : (WSl cy b0 n rf h).set k (b0 + k, e) = WSl cy b0 n rf' h' := by
  unfold WSl
  refine map_range_set ?_ ?_
  · rw [he]
  · intro j hj
    rw [hn j hj, hr j hj]
theorem WSl_push {cy : Nat → ClassId} {b0 n : Nat} {rf rf' : Nat → Nat → Option Nat} {h h' : Hp} {e : va_E} (he : cellE cy b0 n (rf' n) (h' n) = e) (hn : ∀ j, j < n → h' j = h j) (hr : ∀ j, j < n → rf' j = rf j) : WSl cy b0 n rf h ++ [(b0 + n, e)] = WSl cy b0 (n + 1) rf' h' := by
  unfold WSl
  rw [List.range_succ, List.map_append]
  congr 1
  · apply List.map_congr_left
    intro j hj
    rw [hn j (List.mem_range.mp hj), hr j (List.mem_range.mp hj)]
  · simp [he]
theorem WSl_D {cy : Nat → ClassId} {b0 n : Nat} {rf : Nat → Nat → Option Nat} {h : Hp} : va_D (fun q : Nat => b0 ≤ q) (WSl cy b0 n rf h) := by
  have key : ∀ (k : Nat) (q : Nat × va_E), (WSl cy b0 n rf h)[k]? = some q → q.1 = b0 + k := by
    intro k q hq
    by_cases hk : k < n
    · rw [WSl_get hk] at hq
      cases hq
      rfl
    · rw [List.getElem?_eq_none (by unfold WSl; simp; omega)] at hq
      cases hq
  refine ⟨fun i j p q hp hq e => ?_, fun k q hq => ?_⟩
  · have h1 := key i p hp
    have h2 := key j q hq
    omega
  · have := key k q hq
    show b0 ≤ q.1
    omega
/-- the texts stand below the cells, and are what they are -/
def strLen : List Nat := srL.map (fun e => e.2.2.1.length)
def strByt : List (List Int32) := srL.map (fun e => e.2.2.1.toList.map (fun c => Int32.ofNat c.toNat))
def StrOK (aS aV : Nat → Nat) (b0 : Nat) (s : State) (H : Heap) : Prop := vk_S 10 strLen strByt aS aV (fun q => b0 ≤ q) s H ∧ (∀ j : Nat, j < 10 → vk_R (clR (srL.getD j (0, 0, "", 0)).1) (srL.getD j (0, 0, "", 0)).2.1 (srL.getD j (0, 0, "", 0)).2.2.1 (aS j) s) ∧ (∀ j : Nat, j < 10 → aS (1000 + j) = aV j) ∧ va_Z "java/lang/String" "COMPACT_STRINGS" "Z" (.int 1) (fun q => b0 ≤ q) s H ∧ va_AO RX10 s
def Wd (G : Gx) (F : Fx) (h : Hp) (H : Heap) : Prop := match G with
  | (_, D, cy, b0, _, _) => va_P D vwCl (WSl cy b0 F.1 F.2 h) H ∧ (F.1 < NF → H.size = b0 + F.1)
/-- what stays as it is through a walk -/
def Wk (G : Gx) (s : State) : Prop := match G with
  | (_, D, cy, b0, aS, aV) => va_K D vwCl (tysL cy) s ∧ (∀ w ∈ NW, va_Nw w s) ∧ StrOK aS aV b0 s s.heap ∧ b0 ≤ s.heap.size
def KOK (K : Kx) (o : Nat) (cc : ByteArray) (nL : Nat) (ret : Option FieldType) : Prop := match K with
  | (G, p, _, _, s, m, args, _, meth, c, _) => p.tables.exec = Jvm.exec ∧ c.code = cc ∧ meth.sig.returnType = ret ∧ c.maxLocals = nL ∧ s.vm.findClass (clR o) = some m.cls ∧ (∀ w ∈ GW, w.before args s = true) ∧ meth.locks = false ∧ Wk G s
def LV (f : AV → Value) (ls : Array Slot) (nL : Nat) (lv : List (Option AV)) : Prop := lv.length = nL ∧ ls.size = nL ∧ lv_wf ls ∧ ∀ (i : Nat) (v : AV), lv[i]? = some (some v) → ls[i]? = some (.val (f v))
def AT (K : Kx) (F : Fx) (cells slots pc : Nat) (lv : List (Option AV)) (st : List AV) (h : Hp) : Prop := match K with
  | ((l, D, cy, b0, aS, aV), p, e, R, s, m, args, below, meth, c, Q) => ∀ (H : Heap) (locs : List Loc) (ls : Array Slot), Wd (l, D, cy, b0, aS, aV) F h H → va_S (fun q : Nat => b0 ≤ q) s.heap H locs → LV (cv b0 aS) ls lv.length lv → c.maxLocals = lv.length → W p l e R s m args below meth c H locs cells slots Q (F0 m pc ls (st.map (cv b0 aS)))
/-! locals -/
def kill (lv : List (Option AV)) (i : Nat) : List (Option AV) := match i with
  | 0 => lv
  | j + 1 => match lv.getD j none with
    | some (.inr (.inl _)) => lv.set j none
    | _ => lv
def st1 (lv : List (Option AV)) (i : Nat) (v : AV) : List (Option AV) := (kill lv i).set i (some v)
def st2 (lv : List (Option AV)) (i : Nat) (v : AV) : List (Option AV) := ((kill lv i).set i (some v)).set (i + 1) none
theorem kill_len (lv : List (Option AV)) (i : Nat) : (kill lv i).length = lv.length := by
  unfold kill
  split
  · rfl
  · split <;> simp
theorem st1_len (lv : List (Option AV)) (i : Nat) (v : AV) : (st1 lv i v).length = lv.length := by simp [st1, kill_len]
theorem st2_len (lv : List (Option AV)) (i : Nat) (v : AV) : (st2 lv i v).length = lv.length := by simp [st2, kill_len]
def lvl (f : AV → Value) (lv : List (Option AV)) : List (Nat × Value) := (List.range lv.length).filterMap (fun i => match lv[i]? with
  | some (some v) => some (i, f v)
  | _ => none)
theorem mem_lvl {f : AV → Value} {lv : List (Option AV)} {q : Nat × Value} : q ∈ lvl f lv ↔ ∃ v : AV, lv[q.1]? = some (some v) ∧ q.2 = f v := by
  unfold lvl
  rw [List.mem_filterMap]
  constructor
  · rintro ⟨i, -, hi⟩
    split at hi
    · rename_i v hv
      cases hi
      exact ⟨v, hv, rfl⟩
    · cases hi
  · rintro ⟨v, hv, he⟩
    refine ⟨q.1, List.mem_range.mpr (List.getElem?_eq_some_iff.mp hv).1, ?_⟩
    rw [hv]
    show some (q.1, f v) = some q
    rw [← he]
theorem LV.has {f : AV → Value} {ls : Array Slot} {nL : Nat} {lv : List (Option AV)} (h : LV f ls nL lv) : lv_has ls nL (lvl f lv) := by
  refine ⟨h.2.1, h.2.2.1, fun q hq => ?_⟩
  obtain ⟨v, h1, h2⟩ := mem_lvl.mp hq
  rw [h2]
  exact h.2.2.2 _ _ h1
theorem LV.of {f : AV → Value} {ls : Array Slot} {nL : Nat} {lv : List (Option AV)} {l : List (Nat × Value)} (hl : lv.length = nL) (h : lv_has ls nL l) (hm : ∀ (i : Nat) (v : AV), lv[i]? = some (some v) → (i, f v) ∈ l) : LV f ls nL lv :=
  ⟨hl, h.1, h.2.1, fun i v hv => h.2.2 (i, f v) (hm i v hv)⟩
theorem kill_get {lv : List (Option AV)} {i k : Nat} {v : AV} (h : (kill lv i)[k]? = some (some v)) : lv[k]? = some (some v) ∧ ¬ (k + 1 = i ∧ ∃ z, v = .inr (.inl z)) := by
  unfold kill at h
  split at h
  · exact ⟨h, fun q => by omega⟩
  · rename_i j
    split at h
    · rename_i z hz
      by_cases e : j = k
      · subst e
        rw [List.getElem?_set] at h
        simp at h
      · rw [List.getElem?_set_ne e] at h
        exact ⟨h, fun q => e (by omega)⟩
    · rename_i hz
      refine ⟨h, fun q => ?_⟩
      obtain ⟨q1, z, q2⟩ := q
      have : j = k := by omega
      subst this
      subst q2
      exact hz z (by rw [List.getD_eq_getElem?_getD, h]; rfl)
theorem cv_cat2 {b0 : Nat} {aS : Nat → Nat} {v : AV} : (cv b0 aS v).category = 2 ↔ ∃ z, v = .inr (.inl z) := by
  rcases v with z | z | o
  · simp [cv, Value.category]
  · simp [cv, Value.category]
  · cases o <;> simp [cv, Value.category]
theorem st1_LV {b0 : Nat} {aS : Nat → Nat} {ls : Array Slot} {nL i : Nat} {lv : List (Option AV)} {v : AV} {l : List (Nat × Value)} (hlen : lv.length = nL) (hl : (i, cv b0 aS v) :: (lvl (cv b0 aS) lv).filter (fun q => !(q.1 == i) && !(q.1 + 1 == i && q.2.category == 2)) = l) (h : lv_has ls nL l) : LV (cv b0 aS) ls nL (st1 lv i v) := by
  refine LV.of (by rw [st1_len, hlen]) h fun k w hk => ?_
  subst hl
  unfold st1 at hk
  by_cases e : i = k
  · subst e
    rw [List.getElem?_set] at hk
    split at hk
    · split at hk
      · cases hk
        exact List.mem_cons_self
      · cases hk
    · rename_i q; exact absurd rfl q
  · rw [List.getElem?_set_ne e] at hk
    obtain ⟨h1, h2⟩ := kill_get hk
    refine List.mem_cons_of_mem _ (List.mem_filter.mpr ⟨mem_lvl.mpr ⟨w, h1, rfl⟩, ?_⟩)
    simp only [Bool.and_eq_true, Bool.not_eq_true', beq_eq_false_iff_ne, ne_eq, Bool.and_eq_false_iff]
    refine ⟨fun q => e q.symm, ?_⟩
    by_cases c : (cv b0 aS w).category = 2
    · left
      intro q
      exact h2 ⟨q, cv_cat2.mp c⟩
    · right; exact c
theorem st2_LV {b0 : Nat} {aS : Nat → Nat} {ls : Array Slot} {nL i : Nat} {lv : List (Option AV)} {v : AV} {l : List (Nat × Value)} (hlen : lv.length = nL) (hl : (i, cv b0 aS v) :: (lvl (cv b0 aS) lv).filter (fun q => !(q.1 == i) && (!(q.1 == i + 1) && !(q.1 + 1 == i && q.2.category == 2))) = l) (h : lv_has ls nL l) : LV (cv b0 aS) ls nL (st2 lv i v) := by
  refine LV.of (by rw [st2_len, hlen]) h fun k w hk => ?_
  subst hl
  unfold st2 at hk
  by_cases e1 : i + 1 = k
  · subst e1
    rw [List.getElem?_set] at hk
    simp at hk
  rw [List.getElem?_set_ne e1] at hk
  by_cases e : i = k
  · subst e
    rw [List.getElem?_set] at hk
    split at hk
    · split at hk
      · cases hk
        exact List.mem_cons_self
      · cases hk
    · rename_i q; exact absurd rfl q
  · rw [List.getElem?_set_ne e] at hk
    obtain ⟨h1, h2⟩ := kill_get hk
    refine List.mem_cons_of_mem _ (List.mem_filter.mpr ⟨mem_lvl.mpr ⟨w, h1, rfl⟩, ?_⟩)
    simp only [Bool.and_eq_true, Bool.not_eq_true', beq_eq_false_iff_ne, ne_eq, Bool.and_eq_false_iff]
    refine ⟨fun q => e q.symm, fun q => e1 q.symm, ?_⟩
    by_cases c : (cv b0 aS w).category = 2
    · left
      intro q
      exact h2 ⟨q, cv_cat2.mp c⟩
    · right; exact c
