/-! A METHOD AS A TABLE OF INSTRUCTIONS (each with its length and, for a branch, the row that it goes to) -/
abbrev Mx : Type := Nat × (List IT × (ByteArray × (Nat × Option FieldType)))
def pcAt : List IT → Nat → Nat
  | [], _ => 0
  | _ :: _, 0 => 0
  | e :: r, k + 1 => e.2.1 + pcAt r k
def offI : Instr → Option Int
  | .goto d => some d
  | .if_icmp _ d => some d
  | .ifCond _ d => some d
  | .ifnull d => some d
  | .ifnonnull d => some d
  | _ => none
def okFrom (cc : ByteArray) (full : List IT) : List IT → Nat → List UInt8 → Bool
  | [], _, _ => true
  | e :: r, pc, bs => ((okB e.1 bs && decide (lenB e.1 = e.2.1)) || decide (decode cc pc = .ok (e.1, e.2.1))) && (match offI e.1 with
    | some d => decide ((pc : Int) + d = (pcAt full e.2.2 : Int))
    | none => true) && okFrom cc full r (pc + e.2.1) (bs.drop e.2.1)
theorem pcAt_succ : ∀ {tab : List IT} {k : Nat} {e : IT}, tab[k]? = some e → pcAt tab (k + 1) = pcAt tab k + e.2.1
  | [], k, e, h => by simp at h
  | x :: r, 0, e, h => by
    cases h
    cases r <;> simp [pcAt]
  | x :: r, k + 1, e, h => by
    have h1 : r[k]? = some e := by simpa using h
    have h2 := pcAt_succ h1
    show x.2.1 + pcAt r (k + 1) = x.2.1 + pcAt r k + e.2.1
    omega
theorem okFrom_at {cc : ByteArray} {full : List IT} : ∀ {tab : List IT} {pc k : Nat} {e : IT} {bs : List UInt8}, okFrom cc full tab pc bs = true → cc.data.toList.drop pc = bs → tab[k]? = some e → decode cc (pc + pcAt tab k) = .ok (e.1, e.2.1) ∧ ∀ d, offI e.1 = some d → ((pc + pcAt tab k : Nat) : Int) + d = (pcAt full e.2.2 : Int)
  | [], pc, k, e, bs, _, _, h => by simp at h
  | x :: r, pc, 0, e, bs, ho, hb, h => by
    cases h
    simp only [okFrom, Bool.and_eq_true, Bool.or_eq_true, decide_eq_true_eq] at ho
    refine ⟨?_, fun d hd => ?_⟩
    · show decode cc (pc + 0) = _
      rcases ho.1.1 with ⟨g1, g2⟩ | g
      · rw [← g2]; exact okB_dec hb g1
      · exact g
    · have h3 := ho.1.2
      rw [hd] at h3
      simpa [pcAt] using h3
  | x :: r, pc, k + 1, e, bs, ho, hb, h => by
    have h1 : r[k]? = some e := by simpa using h
    simp only [okFrom, Bool.and_eq_true] at ho
    have h2 := okFrom_at ho.2 (by rw [← hb, List.drop_drop]) h1
    have e1 : pc + pcAt (x :: r) (k + 1) = pc + x.2.1 + pcAt r k := by
      show pc + (x.2.1 + pcAt r k) = _
      omega
    rw [e1]
    exact h2
def tabOK (M : Mx) : Bool := okFrom M.2.2.1 M.2.1 M.2.1 0 M.2.2.1.data.toList
def MK (K : Kx) (M : Mx) : Prop := KOK K M.1 M.2.2.1 M.2.2.2.1 M.2.2.2.2 ∧ tabOK M = true
def ATk (K : Kx) (F : Fx) (cs sl : Nat) (M : Mx) (k : Nat) (lv : List (Option AV)) (st : List AV) (h : Hp) : Prop := AT K F cs sl (pcAt M.2.1 k) lv st h
theorem MK.dec {K : Kx} {M : Mx} {k : Nat} {e : IT} (hM : MK K M) (he : M.2.1[k]? = some e) : decode M.2.2.1 (pcAt M.2.1 k) = .ok (e.1, e.2.1) ∧ ∀ d, offI e.1 = some d → (pcAt M.2.1 k : Int) + d = (pcAt M.2.1 e.2.2 : Int) := by
  have := okFrom_at hM.2 rfl he
  simpa using this
def sxl (o : Nat) (F : Fx) : Nat → List IT → Sx → Option Sx
  | 0, _, x => some x
  | _ + 1, [], _ => none
  | n + 1, e :: r, x => match sx1 o F x.1 x.2.1 x.2.2 e.2.1 e.1 with
    | some y => sxl o F n r y
    | none => none
section RUL
variable {K : Kx} {F : Fx} {cs sl k : Nat} {M : Mx} {lv lv1 : List (Option AV)} {st s1 : List AV} {h h1 : Hp}
/-- a stretch of plain instructions -/
theorem A_blk (hM : MK K M) (n : Nat) (hs : sxl M.1 F n (M.2.1.drop k) (lv, st, h) = some (lv1, s1, h1)) (kk : ATk K F cs sl M (k + n) lv1 s1 h1) : ATk K F cs sl M k lv st h := by
  induction n generalizing k lv st h with
  | zero =>
    cases hs
    exact kk
  | succ n ih =>
    cases hd : M.2.1.drop k with
    | nil => rw [hd] at hs; cases hs
    | cons e r =>
      have he : M.2.1[k]? = some e := by
        have h5 : (M.2.1.drop k)[0]? = some e := by rw [hd]; rfl
        simpa using h5
      have hr : M.2.1.drop (k + 1) = r := by
        rw [← List.drop_drop (i := 1) (j := k), hd]; rfl
      rw [hd] at hs
      simp only [sxl] at hs
      split at hs
      · rename_i y hy
        obtain ⟨lvy, sty, hy'⟩ := y
        have k2 : ATk K F cs sl M (k + 1) lvy sty hy' := by
          refine ih (by rw [hr]; exact hs) ?_
          rw [show k + 1 + n = k + (n + 1) by omega]
          exact kk
        have hdec := (hM.dec he).1
        obtain ⟨⟨l, D, cy, b0, aS, aV⟩, p, ee, R, s, m, args, below, meth, c, Q⟩ := K
        obtain ⟨hx, hb, hrt, hml, hown, hts, hlk, hWk⟩ := hM.1
        intro H locs ls hW hS hL hmx
        refine sx1_ok (l := l) (aV := aV) e.2.1 e.1 hx hb hown hts hWk.1 hdec hy hW hS hL fun H1 locs1 ls1 hlen hW1 hS1 hL1 => ?_
        have k3 := k2 H1 locs1 ls1 hW1 hS1 hL1 (hmx.trans hlen.symm)
        rw [← pcAt_succ he]
        exact k3
      · cases hs
/-- forget some locals -/
def mask : List Bool → List (Option AV) → List (Option AV)
  | [], l => l
  | _, [] => []
  | b :: bs, v :: r => (if b then v else none) :: mask bs r
theorem mask_len : ∀ (bs : List Bool) (l : List (Option AV)), (mask bs l).length = l.length
  | [], l => by simp [mask]
  | b :: bs, [] => by simp [mask]
  | b :: bs, v :: r => by simp [mask, mask_len bs r]
theorem mask_get : ∀ (bs : List Bool) (l : List (Option AV)) (i : Nat) (v : AV), (mask bs l)[i]? = some (some v) → l[i]? = some (some v)
  | [], l, i, v, h => by simpa [mask] using h
  | b :: bs, [], i, v, h => by simp [mask] at h
  | b :: bs, x :: r, 0, v, h => by
    cases b with
    | true => simpa [mask] using h
    | false => simp [mask] at h
  | b :: bs, x :: r, i + 1, v, h => by
    have h1 : (mask bs r)[i]? = some (some v) := by simpa [mask] using h
    simpa using mask_get bs r i v h1
theorem A_mask (bs : List Bool) (hl : mask bs lv = lv1) (kk : ATk K F cs sl M k lv1 st h) : ATk K F cs sl M k lv st h := by
  subst hl
  obtain ⟨⟨l, D, cy, b0, aS, aV⟩, p, ee, R, s, m, args, below, meth, c, Q⟩ := K
  intro H locs ls hW hS hL hmx
  refine kk H locs ls hW hS ?_ (by rw [mask_len]; exact hmx)
  rw [mask_len]
  exact ⟨mask_len _ _, hL.2.1, hL.2.2.1, fun i v hv => hL.2.2.2 i v (mask_get bs lv i v hv)⟩
theorem A_go {kt len : Nat} {d : Int} (hM : MK K M) (he : M.2.1[k]? = some (.goto d, len, kt)) (hlen : len = 3) (kk : ATk K F cs sl M kt lv st h) : ATk K F cs sl M k lv st h := by
  subst hlen
  obtain ⟨hdec, hoff⟩ := hM.dec he
  have ht := hoff d rfl
  obtain ⟨⟨l, D, cy, b0, aS, aV⟩, p, ee, R, s, m, args, below, meth, c, Q⟩ := K
  obtain ⟨hx, hb, hrt, hml, hown, hts, hlk, hWk⟩ := hM.1
  intro H locs ls hW hS hL hmx
  exact lv_goto hx hb hdec ht (kk H locs ls hW hS hL hmx)
theorem w32_lt {x y : Int} : Int32.ofInt x < Int32.ofInt y ↔ w32 x < w32 y := Int32.lt_iff_toInt_lt
theorem w32_le {x y : Int} : Int32.ofInt x ≤ Int32.ofInt y ↔ w32 x ≤ w32 y := Int32.le_iff_toInt_le
theorem w32_eq {x y : Int} : Int32.ofInt x = Int32.ofInt y ↔ w32 x = w32 y := Int32.toInt_inj.symm
theorem w32_0 : w32 0 = 0 := rfl
def cmpP (op : Jvm.ClassFile.Cond) (x y : Int) : Prop := match op with
  | .eq => x = y
  | .ne => x ≠ y
  | .lt => x < y
  | .ge => y ≤ x
  | .gt => y < x
  | .le => x ≤ y
end RUL
