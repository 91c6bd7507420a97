section SND
variable {p : Program} {l : Launch} {e : Env} {R : Room} {s : State} {m : MethodId} {args : Array Value} {below : List Frame} {meth : Method} {c : Code} {cells slots : Nat} {Q : State → Prop}
variable {D : va_G} {cy : Nat → ClassId} {b0 : Nat} {aS aV : Nat → Nat} {F : Fx} {h h1 : Hp} {lv lv1 : List (Option AV)} {st s1 : List AV} {cc : ByteArray} {o pc nL : Nat} {ret : Option FieldType}
theorem i32_add (x y : Int) : Int32.ofInt (x + y) = Int32.ofInt x + Int32.ofInt y := Int32.ofInt_add x y
theorem i32_sub (x y : Int) : Int32.ofInt (x - y) = Int32.ofInt x - Int32.ofInt y := Int32.ofInt_sub x y
theorem i32_mul (x y : Int) : Int32.ofInt (x * y) = Int32.ofInt x * Int32.ofInt y := Int32.ofInt_mul x y
theorem i32_neg (x : Int) : Int32.ofInt (-x) = -Int32.ofInt x := Int32.ofInt_neg x
theorem i64_add (x y : Int) : Int64.ofInt (x + y) = Int64.ofInt x + Int64.ofInt y := Int64.ofInt_add x y
theorem i64_sub (x y : Int) : Int64.ofInt (x - y) = Int64.ofInt x - Int64.ofInt y := Int64.ofInt_sub x y
theorem i64_mul (x y : Int) : Int64.ofInt (x * y) = Int64.ofInt x * Int64.ofInt y := Int64.ofInt_mul x y
theorem i32_of (a : Int32) : Int32.ofInt a.toInt = a := Int32.ofInt_toInt a
theorem i64_of (a : Int64) : Int64.ofInt a.toInt = a := Int64.ofInt_toInt a
theorem i64_w32 (x : Int) : Int64.ofInt (w32 x) = (Int32.ofInt x).toInt64 := by
  unfold w32
  apply Int64.toInt_inj.mp
  rw [Int32.toInt_toInt64]
  have h1 := (Int32.ofInt x).le_toInt
  have h2 := (Int32.ofInt x).toInt_lt
  rw [Int64.toInt_ofInt_of_le (by omega) (by omega)]
theorem kd_lt {a n : Nat} : kd a = n → n < 13 → kd a < 13 := fun h1 h2 => by rw [h1]; exact h2
theorem cellE_obj {k : Nat} {r : Nat → Option Nat} {g : Nat → Int} (hk : kd k < 13) : cellE cy b0 k r g = .inr (kd k, (List.range (clN (kd k))).map (fv b0 r g (kd k))) := by
  unfold cellE
  rw [if_pos hk]
theorem fv_get {n j : Nat} {f : Nat → Value} (hj : j < n) : ((List.range n).map f)[j]? = some (f j) := by simp [hj]
theorem sxGet_ok {locs : List Loc} {H : Heap} {ls : Array Slot} {idx : Nat} (hx : p.tables.exec = Jvm.exec) (hb : c.code = cc) (hown : s.vm.findClass (clR o) = some m.cls) (hts : ∀ w ∈ GW, w.before args s = true) (hK : va_K D vwCl (tysL cy) s)
    (hd : decode cc pc = .ok (.getfield idx, 3)) (hs : sxGet o F lv st h idx = some (lv1, s1, h1)) (hW : Wd (l, D, cy, b0, aS, aV) F h H)
    (kk : lv1 = lv → h1 = h → W p l e R s m args below meth c H locs cells slots Q (F0 m (pc + 3) ls (s1.map (cv b0 aS)))) : W p l e R s m args below meth c H locs cells slots Q (F0 m pc ls (st.map (cv b0 aS))) := by
  unfold sxGet at hs
  split at hs
  · rename_i i0 ci j i hl
    split at hs
    · rename_i a r
      split at hs
      · rename_i hc
        obtain ⟨ha, ha2, hkd⟩ := hc
        obtain ⟨hlk, hj, hci⟩ := lk_spec (lk_lt hl) hl
        have had : ad b0 aS a = b0 + a := by unfold ad; rw [if_pos ha2]
        have hsame : ∀ x, s.fieldFound? (clT ci j).1 (clT ci j).2.1 (clT ci j).2.2.1 = some x → s.fieldFound? (clR ci) (clT ci j).2.1 (clT ci j).2.2.1 = some x := fun x h => by rw [cl_own' hci hj] at h; exact h
        have hcell : (WSl cy b0 F.1 F.2 h)[a]? = some (b0 + a, .inr (ci, (List.range (clN ci)).map (fv b0 (F.2 a) (h a) ci))) := by
          rw [WSl_get ha, cellE_obj (by omega), hkd]
        have key : ∀ v : AV, cv b0 aS v = fv b0 (F.2 a) (h a) ci j → s1 = v :: r → W p l e R s m args below meth c H locs cells slots Q (F0 m pc ls (.ref (ad b0 aS a) :: r.map (cv b0 aS))) := by
          intro v hv hs1
          have := kk
          rw [had]
          refine va_get (D := D) (ci := ci) (v := cv b0 aS v) (C := clR ci) (T := clT ci) (N := clN ci) hx hb hts (cl_in ci hci) hown hK hW.1 a hcell (cl_vw ci hci) j hj (hts _ hlk) hsame (by rw [fv_get hj, hv]) hd ?_
          have e1 : lv1 = lv ∧ h1 = h := by
            revert hs
            split <;> intro hs
            · cases hs; exact ⟨rfl, rfl⟩
            · cases hs; exact ⟨rfl, rfl⟩
            · split at hs
              · split at hs
                · cases hs; exact ⟨rfl, rfl⟩
                · cases hs
              · cases hs; exact ⟨rfl, rfl⟩
            · cases hs; exact ⟨rfl, rfl⟩
          have k1 := kk e1.1 e1.2
          rw [hs1] at k1
          exact k1
        split at hs
        · rename_i h0
          cases hs
          exact key (aI (h a j)) (by simp [fv, h0, cv]) rfl
        · rename_i h0
          cases hs
          exact key (aL (h a j)) (by simp [fv, h0, cv]) rfl
        · rename_i h0
          split at hs
          · rename_i x hx1
            split at hs
            · rename_i hx2
              cases hs
              exact key (aR x) (by simp [fv, h0, cv, hx1, va_rf, ad, hx2]) rfl
            · cases hs
          · rename_i hx1
            cases hs
            exact key aN (by simp [fv, h0, cv, hx1, va_rf]) rfl
        · rename_i h0 h1' h2
          cases hs
          exact key (aI (h a j)) (by
            have : ∀ n, ft ci j = n → n ≠ 0 → n ≠ 1 → n ≠ 2 → fv b0 (F.2 a) (h a) ci j = .int (Int32.ofInt (h a j)) := by
              intro n hn g0 g1 g2
              unfold fv
              split
              · omega
              · omega
              · omega
              · rfl
            exact (this _ rfl h0 h1' h2).symm) rfl
      · cases hs
    · cases hs
  · cases hs
theorem obj_set {b0 a : Nat} {r : Nat → Option Nat} {h : Hp} {ci j : Nat} {z : Int} (hkd : kd a = ci) (hci : ci < 13) : cellE cy b0 a r (setH h a j z a) = .inr (ci, ((List.range (clN ci)).map (fv b0 r (h a) ci)).set j (fv b0 r (setH h a j z a) ci j)) := by
  rw [cellE_obj (by omega), hkd]
  congr 2
  symm
  refine map_range_set rfl ?_
  intro i hi
  unfold fv setH
  simp [hi]
theorem Wd_set {H H1 : Heap} {a : Nat} {h' : Hp} {e1 : va_E} (ha : a < F.1) (hn : ∀ j, j ≠ a → h' j = h j) (he : cellE cy b0 a (F.2 a) (h' a) = e1) (hW : Wd (l, D, cy, b0, aS, aV) F h H) (hz : F.1 < NF → H1.size = H.size) (hP : va_P D vwCl ((WSl cy b0 F.1 F.2 h).set a (b0 + a, e1)) H1) : Wd (l, D, cy, b0, aS, aV) F h' H1 := by
  refine ⟨?_, fun q => (hz q).trans (hW.2 q)⟩
  have := WSl_set (n := F.1) (rf := F.2) (rf' := F.2) (h := h) (h' := h') (k := a) he hn (fun _ _ => rfl)
  rw [this] at hP
  exact hP
theorem sxPut_ok {locs : List Loc} {H : Heap} {ls : Array Slot} {idx : Nat} (hx : p.tables.exec = Jvm.exec) (hb : c.code = cc) (hown : s.vm.findClass (clR o) = some m.cls) (hts : ∀ w ∈ GW, w.before args s = true) (hK : va_K D vwCl (tysL cy) s)
    (hd : decode cc pc = .ok (.putfield idx, 3)) (hs : sxPut o F lv st h idx = some (lv1, s1, h1)) (hW : Wd (l, D, cy, b0, aS, aV) F h H) (hS : va_S (fun q : Nat => b0 ≤ q) s.heap H locs)
    (kk : ∀ (H1 : Heap) (locs1 : List Loc), lv1 = lv → Wd (l, D, cy, b0, aS, aV) F h1 H1 → va_S (fun q : Nat => b0 ≤ q) s.heap H1 locs1 → W p l e R s m args below meth c H1 locs1 cells slots Q (F0 m (pc + 3) ls (s1.map (cv b0 aS)))) : W p l e R s m args below meth c H locs cells slots Q (F0 m pc ls (st.map (cv b0 aS))) := by
  unfold sxPut at hs
  split at hs
  · rename_i i0 ci j i hl
    obtain ⟨hlk, hj, hci⟩ := lk_spec (lk_lt hl) hl
    split at hs
    · rename_i z a r
      split at hs
      · rename_i hc
        obtain ⟨ha, ha2, hkd, hft, hfin⟩ := hc
        cases hs
        have had : ad b0 aS a = b0 + a := by unfold ad; rw [if_pos ha2]
        show W p l e R s m args below meth c H locs cells slots Q (F0 m pc ls (.int (Int32.ofInt z) :: .ref (ad b0 aS a) :: _))
        rw [had]
        have hty := (cl_ft' hci hj).1 hft
        refine put_row (v := .int (Int32.ofInt z)) hx hb hci hts hown hK hW.1 WSl_D hS a (by rw [WSl_get ha, cellE_obj (by omega), hkd]) hj hlk (Or.inl hfin) (by rw [hty]; rfl) (by rw [hty]; rfl) (by simpa using hj) hd fun H1 locs1 hz hP1 hS1 => ?_
        exact kk H1 locs1 rfl (Wd_set ha (fun i hi => setH_ne hi) ((obj_set hkd hci).trans (by simp [fv, hft, setH])) hW (fun _ => hz) hP1) hS1
      · cases hs
    · rename_i z a r
      split at hs
      · rename_i hc
        obtain ⟨ha, ha2, hkd, hft, hfin⟩ := hc
        cases hs
        have had : ad b0 aS a = b0 + a := by unfold ad; rw [if_pos ha2]
        show W p l e R s m args below meth c H locs cells slots Q (F0 m pc ls (.long (Int64.ofInt z) :: .ref (ad b0 aS a) :: _))
        rw [had]
        have hty := (cl_ft' hci hj).2.1 hft
        refine put_row (v := .long (Int64.ofInt z)) hx hb hci hts hown hK hW.1 WSl_D hS a (by rw [WSl_get ha, cellE_obj (by omega), hkd]) hj hlk (Or.inl hfin) (by rw [hty]; rfl) (by rw [hty]; rfl) (by simpa using hj) hd fun H1 locs1 hz hP1 hS1 => ?_
        exact kk H1 locs1 rfl (Wd_set ha (fun i hi => setH_ne hi) ((obj_set hkd hci).trans (by simp [fv, hft, setH])) hW (fun _ => hz) hP1) hS1
      · cases hs
    · cases hs
  · cases hs
end SND
