/-! CONTRACTS AND CALLS -/
def lay : List AV → List (Option AV)
  | [] => []
  | v :: r => match v with
    | .inr (.inl z) => some (aL z) :: none :: lay r
    | w => some w :: lay r
def lv0 (args : List AV) (nL : Nat) : List (Option AV) := lay args ++ List.replicate (nL - (lay args).length) none
theorem lay_sl {b0 : Nat} {aS : Nat → Nat} : ∀ args : List AV, (lg_sl (args.map (cv b0 aS))).length = (lay args).length
  | [] => rfl
  | v :: r => by
    have h := lay_sl (b0 := b0) (aS := aS) r
    unfold lg_sl at h ⊢
    rcases v with z | z | o
    · simpa [lay, cv, Value.category] using h
    · simpa [lay, cv, Value.category] using h
    · cases o <;> simpa [lay, cv, Value.category] using h
theorem lay_args {b0 : Nat} {aS : Nat → Nat} : ∀ (args : List AV) (j i : Nat) (v : AV), (lay args)[i]? = some (some v) → (j + i, cv b0 aS v) ∈ lv_args j (args.map (cv b0 aS))
  | [], j, i, v, h => by simp [lay] at h
  | w :: r, j, i, v, h => by
    have one : ∀ (w : AV), isW w = false → lay (w :: r) = some w :: lay r → (lay (w :: r))[i]? = some (some v) → (j + i, cv b0 aS v) ∈ lv_args j ((w :: r).map (cv b0 aS)) := by
      intro w hw hl h
      rw [hl] at h
      cases i with
      | zero =>
        cases h
        exact List.mem_cons_self
      | succ i =>
        have h1 : (lay r)[i]? = some (some v) := by simpa using h
        have h2 := lay_args (b0 := b0) (aS := aS) r (j + 1) i v h1
        refine List.mem_cons_of_mem _ ?_
        have hc : ¬ (cv b0 aS w).category = 2 := by have := cat1 (b0 := b0) (aS := aS) hw; omega
        rw [if_neg hc, show j + (i + 1) = j + 1 + i by omega]
        exact h2
    rcases w with z | z | o
    · exact one _ rfl rfl h
    · have h0 : (some (aL z) :: none :: lay r)[i]? = some (some v) := h
      match i, h0 with
      | 0, h0 =>
        cases h0
        exact List.mem_cons_self
      | 1, h0 => cases h0
      | i + 2, h0 =>
        have h1 : (lay r)[i]? = some (some v) := by simpa using h0
        have h2 := lay_args (b0 := b0) (aS := aS) r (j + 2) i v h1
        refine List.mem_cons_of_mem _ ?_
        rw [if_pos (show (cv b0 aS (Sum.inr (Sum.inl z))).category = 2 from rfl), show j + (i + 2) = j + 2 + i by omega]
        exact h2
    · exact one _ rfl rfl h
theorem lv0_LV {b0 : Nat} {aS : Nat → Nat} (args : List AV) {nL : Nat} (h : (lay args).length ≤ nL) : LV (cv b0 aS) ((lg_sl (args.map (cv b0 aS)) ++ List.replicate (nL - (lg_sl (args.map (cv b0 aS))).length) Slot.unset).toArray) nL (lv0 args nL) := by
  have hl := lv_entry (args.map (cv b0 aS)) (n := nL) (by rw [lay_sl]; exact h)
  refine LV.of (by unfold lv0; simp; omega) hl fun i v hv => ?_
  unfold lv0 at hv
  have h1 : (lay args)[i]? = some (some v) := by
    by_cases hi : i < (lay args).length
    · rw [List.getElem?_append_left hi] at hv
      exact hv
    · rw [List.getElem?_append_right (by omega), List.getElem?_replicate] at hv
      split at hv <;> cases hv
  have := lay_args (b0 := b0) (aS := aS) args 0 i v h1
  simpa using this
def rmD (d mc ms : Nat) : Room := { frames := d, cells := mc, slots := ms, locals := 34 * d }
/-- the contract of a method at arguments and a heap -/
def CT (G : Gx) (y : MethodName) (M : Mx) (d mc ms : Nat) (F : Fx) (h : Hp) (args : List AV) (Qp : Option AV → Fx → Hp → Prop) : Prop :=
  Met G.1 y (.code y M.2.2.1 M.2.2.2.1 M.2.2.2.2 :: GW) (rmD d mc ms) (va_Pc (args.map (cv G.2.2.2.1 G.2.2.2.2.1)) (fun U => Wd G F h U.heap ∧ Wk G U)) (QB G Qp) mc ms (fun q : Nat => G.2.2.2.1 ≤ q)
/-- where a walk stands, with its room -/
def MB (K : Kx) (G : Gx) (M : Mx) (d : Nat) : Prop := MK K M ∧ K.1 = G ∧ d ≤ K.2.2.2.1.frames ∧ 34 * d ≤ K.2.2.2.1.locals
theorem CT.of {G : Gx} {y : MethodName} {M : Mx} {d mc ms : Nat} {F : Fx} {h : Hp} {args : List AV} {Qp : Option AV → Fx → Hp → Prop} (hy : plainName y.cls = true) (ho : y.cls = clR M.1) (hlen : (lay args).length ≤ M.2.2.2.1) (hok : tabOK M = true)
    (body : ∀ k0 : K0, k0.2.2.2.1 = rmD d mc ms → (k0.2.2.2.2.2.2.2.2.1).name = y.name → MB (KM k0 mc ms Qp) G M d → ATk (KM k0 mc ms Qp) F 0 0 M 0 (lv0 args M.2.2.2.1) [] h) : CT G y M d mc ms F h args Qp := by
  unfold CT
  obtain ⟨l, D, cy, b0, aS, aV⟩ := G
  refine Met.ofW (cc := M.2.2.1) (maxL := M.2.2.2.1) (ret := M.2.2.2.2) hy rfl ?_
  intro p e s m a below meth c s₁ B hml hv
  obtain ⟨rfl, hWd, hWk⟩ := hv
  have hts := atoms_spec (ws := .code y M.2.2.1 M.2.2.2.1 M.2.2.2.2 :: GW) B.pre
  have hown : s.vm.findClass (clR M.1) = some m.cls := by rw [← ho]; exact findClass_of_methodNamed B.named
  have hM : MB (KM ((l, D, cy, b0, aS, aV), p, e, rmD d mc ms, s, m, (args.map (cv b0 aS)).toArray, below, meth, c) mc ms Qp) (l, D, cy, b0, aS, aV) M d :=
    ⟨⟨⟨B.exec, B.bytes, B.returns, hml, hown, fun w hw => hts w (List.mem_cons_of_mem _ hw), B.notSynchronized, hWk⟩, hok⟩, rfl, Nat.le_refl _, Nat.le_refl _⟩
  have hb := body ((l, D, cy, b0, aS, aV), p, e, rmD d mc ms, s, m, (args.map (cv b0 aS)).toArray, below, meth, c) rfl (name_of_methodNamed B.named B.method).1 hM
  have hLV := lv0_LV (b0 := b0) (aS := aS) args hlen
  have hl0 : (lv0 args M.2.2.2.1).length = M.2.2.2.1 := hLV.1
  have hp0 : pcAt M.2.1 0 = 0 := by cases M.2.1 <;> rfl
  have h1 := hb s.heap [] _ hWd va_S.rf (by rw [hl0]; exact hLV) (hml.trans hl0.symm)
  show W p l e (rmD d mc ms) s m _ below meth c s.heap [] 0 0 _ (entryFrame m ((args.map (cv b0 aS)).toArray) M.2.2.2.1)
  rw [lg_entry_eq]
  rw [hp0] at h1
  exact h1
theorem goodIn_mem {ws : List Cond} (h : ∀ w ∈ ws, w ∈ GW) : GoodIn GW ws := fun w hw => GW_good w (h w hw)
/-- what the tables say of a method -/
def MIs (y : MethodName) (M : Mx) (np : Nat) : Prop := .code y M.2.2.1 M.2.2.2.1 M.2.2.2.2 ∈ GW ∧ .initialized y.cls ∈ GW ∧ y.cls ≠ "java/lang/invoke/MethodHandle" ∧ y.cls ≠ "java/lang/invoke/VarHandle" ∧ (parseMethodDescriptor y.desc).map (fun d => d.parameters.length) = some np ∧ M.2.2.2.1 ≤ 15
def MIv (y : MethodName) (M : Mx) (np : Nat) : Prop := MIs y M np ∧ .instanceMethod y ∈ GW ∧ .selects y.cls y y ∈ GW
def catW (l : List AV) : Nat := (l.map (fun v => if isW v then 2 else 1)).sum
theorem catW_le {b0 : Nat} {aS : Nat → Nat} : ∀ l : List AV, ((l.map (cv b0 aS)).map fun v => v.category).sum = catW l
  | [] => rfl
  | v :: r => by
    have h := catW_le (b0 := b0) (aS := aS) r
    unfold catW at h ⊢
    rcases v with z | z | o
    · simp [isW, cv, Value.category] at h ⊢; omega
    · simp [isW, cv, Value.category] at h ⊢; omega
    · cases o <;> (simp [isW, cv, Value.category] at h ⊢; omega)
section CAL
variable {p : Program} {l : Launch} {e : Env} {R : Room} {s : State} {m : MethodId} {args : Array Value} {below : List Frame} {meth : Method} {c : Code} {H : Heap} {locs : List Loc} {cells slots mc ms : Nat} {Q : State → Prop}
variable {D : va_G} {cy : Nat → ClassId} {b0 : Nat} {aS aV : Nat → Nat} {F : Fx} {h : Hp} {Qc : Option AV → Fx → Hp → Prop}
theorem run_go {pc : Nat} {ls : Array Slot} {st0 : List Value} {a : Array Value} {rest : List AV} (hr : va_Run p l e R s m args below meth c H locs cells slots mc ms (F0 m pc ls st0) (rest.map (cv b0 aS)) (QB (l, D, cy, b0, aS, aV) Qc a) (fun q : Nat => b0 ≤ q)) (hS : va_S (fun q : Nat => b0 ≤ q) s.heap H locs)
    (kk : ∀ (r : Option AV) (F' : Fx) (h' : Hp) (H1 : Heap) (locs1 : List Loc), Qc r F' h' → Wd (l, D, cy, b0, aS, aV) F' h' H1 → va_S (fun q : Nat => b0 ≤ q) s.heap H1 locs1 → W p l e R s m args below meth c H1 locs1 (cells + mc) (slots + ms) Q (F0 m (pc + 3) ls ((r.toList ++ rest).map (cv b0 aS)))) : W p l e R s m args below meth c H locs cells slots Q (F0 m pc ls st0) := by
  intro T hT X
  obtain ⟨v, st₀, t, T', L, h0, X', hL, e1, e2, ⟨⟨r, F', h', hv, hq, hd, hw⟩, hz, hk⟩, st⟩ := hr T hT X
  cases hv
  rw [h0] at hz hk
  have k1 := kk r F' h' T'.heap (locs ++ L) hq (by rw [e1]; exact hd)
    ⟨Nat.le_trans hS.1 (by rw [e1]; exact hz), fun q h1 h2 => by rw [e1, hk q (Nat.lt_of_lt_of_le h1 hS.1) h2]; exact hS.2.1 q h1 h2, fun q hq => by
      rcases List.mem_append.mp hq with h | h
      · exact hS.2.2 q h
      · exact hL q h⟩
  have e3 : (r.toList ++ rest).map (cv b0 aS) = (r.map (cv b0 aS)).toList ++ rest.map (cv b0 aS) := by cases r <;> rfl
  rw [e3] at k1
  obtain ⟨t2, a1, b1⟩ := k1 T' rfl X'
  exact ⟨t2, st t2 a1, b1⟩
theorem pre_blind {G : Gx} {av : List Value} : FrameBlind (va_Pc av (fun U => Wd G F h U.heap ∧ Wk G U)) := fun a U g mk q => ⟨q.1, q.2.1, Wk.same (s := U) (t := U.calling g mk a) rfl rfl q.2.2⟩
theorem pre_at {av : List Value} {U : State} (hU : U.heap = H) (hW : s.WarmedH U.vm) (hWd : Wd (l, D, cy, b0, aS, aV) F h H) (hS : va_S (fun q : Nat => b0 ≤ q) s.heap H locs) (hWk : Wk (l, D, cy, b0, aS, aV) s) : va_Pc av (fun U => Wd (l, D, cy, b0, aS, aV) F h U.heap ∧ Wk (l, D, cy, b0, aS, aV) U) av.toArray U :=
  ⟨rfl, by rw [hU]; exact hWd, hWk.moved (G := (l, D, cy, b0, aS, aV)) hW hU hS⟩
theorem recv_at {a ci : Nat} (hW : Wd (l, D, cy, b0, aS, aV) F h H) (hK : va_K D vwCl (tysL cy) s) (ha : a < F.1) (hkd : kd a = ci) (hci : ci < 13) : ∃ cellB : Cell, H[b0 + a]? = some cellB ∧ cellB.vm.isStatics = false ∧ s.vm.findClass (clR ci) = some cellB.cls := by
  have he : (WSl cy b0 F.1 F.2 h)[a]? = some (b0 + a, .inr (ci, (List.range (clN ci)).map (fv b0 (F.2 a) (h a) ci))) := by
    rw [WSl_get ha, cellE_obj (by omega), hkd]
  exact va_recv hK hW.1 (cl_vw ci hci) he
end CAL
section CA2
variable {K : Kx} {G : Gx} {F : Fx} {cs sl k d mc ms : Nat} {M : Mx} {lv : List (Option AV)} {st : List AV} {h : Hp} {Qc : Option AV → Fx → Hp → Prop}
theorem A_callV {y : MethodName} {My : Mx} {np idx len kt d1 a ci : Nat} {As rest : List AV} (hM : MB K G M d) (he : M.2.1[k]? = some (.invokevirtual idx, len, kt)) (hlen : len = 3) (hlink : .methodLink (clR M.1) idx y ∈ GW) (hi : MIv y My np) (hC : CT G y My d1 mc ms F h (aR a :: As) Qc) (hd : d1 < d) (hcs : cs + mc ≤ K.2.2.2.1.cells ∧ sl + ms ≤ K.2.2.2.1.slots) (hst : As.reverse ++ aR a :: rest = st) (hnp : As.length = np) (hrest : catW rest ≤ 8) (ha : a < F.1) (hkd : kd a = ci) (hci : ci < 13) (hyc : clR ci = y.cls)
    (kk : ∀ (r : Option AV) (F' : Fx) (h' : Hp), Qc r F' h' → ATk K F' (cs + mc) (sl + ms) M (k + 1) lv (r.toList ++ rest) h') : ATk K F cs sl M k lv st h := by
  subst hlen
  subst hst
  obtain ⟨hMK, hKG, hfr, hlo⟩ := hM
  have hdec := (hMK.dec he).1
  unfold ATk at kk ⊢
  rw [pcAt_succ he] at kk
  obtain ⟨⟨l, D, cy, b0, aS, aV⟩, p, ee, R, s, m, args, below, meth, c, Q⟩ := K
  subst hKG
  obtain ⟨hx, hb, hrt, hml, hown, hts, hlk, hWk⟩ := hMK.1
  obtain ⟨⟨g1, g2, g3, g4, g5, g6⟩, g7, g8⟩ := hi
  intro H locs ls hW hS hL hmx
  have hlt : a < 1000 := Nat.lt_trans (kd_in hkd (by omega)) NF_lt
  have hsp : ((As.reverse ++ aR a :: rest).map (cv b0 aS)) = (As.map (cv b0 aS)).reverse ++ .ref (b0 + a) :: rest.map (cv b0 aS) := by
    simp [cv, adlt hlt]
  rw [hsp]
  have hC2 : Met l y (.code y My.2.2.1 My.2.2.2.1 My.2.2.2.2 :: GW) (rmD d1 mc ms) (va_Pc (.ref (b0 + a) :: As.map (cv b0 aS)) (fun U => Wd (l, D, cy, b0, aS, aV) F h U.heap ∧ Wk (l, D, cy, b0, aS, aV) U)) (QB (l, D, cy, b0, aS, aV) Qc) mc ms (fun q : Nat => b0 ≤ q) := by
    have e : (aR a :: As).map (cv b0 aS) = .ref (b0 + a) :: As.map (cv b0 aS) := by simp [cv, adlt hlt]
    unfold CT at hC
    dsimp only at hC
    rw [e] at hC
    exact hC
  have hGi : GoodIn GW (wsV (clR M.1) idx y.cls y (.code y My.2.2.1 My.2.2.2.1 My.2.2.2.2 :: GW)) := goodIn_mem (by
    intro w hw
    unfold wsV at hw
    simp only [List.cons_append, List.nil_append, List.mem_cons] at hw
    rcases hw with rfl | rfl | rfl | rfl | rfl | hw
    · exact hlink
    · exact g7
    · exact g8
    · exact g2
    · exact g1
    · exact hw)
  have hrecv := recv_at hW hWk.1 ha hkd hci
  rw [hyc] at hrecv
  refine run_go (va_runV (As := As.map (cv b0 aS)) (rest := rest.map (cv b0 aS)) ⟨hx, hb, hml, hown, hts⟩ hC2 (cwV np hts hGi rfl rfl rfl ⟨rfl, g3, g4, g5⟩ ⟨by show d1 + 1 ≤ R.frames; exact Nat.le_trans hd hfr, by show 8 + (My.2.2.2.1 + 11) + 34 * d1 ≤ R.locals; have : 34 * d ≤ R.locals := hlo; omega⟩) ⟨pre_blind, hrecv, fun U hU hw => pre_at hU hw hW hS hWk⟩ rfl (by simpa using hnp) (hL.2.1.trans (hmx.symm.trans hml)) rfl (lv_room (by rw [catW_le]; exact hrest)) hdec hcs) hS fun r F' h' H1 locs1 hq hW1 hS1 => ?_
  exact kk r F' h' hq H1 locs1 ls hW1 hS1 hL hmx
theorem A_callS {y : MethodName} {My : Mx} {np idx len kt d1 : Nat} {As rest : List AV} (hM : MB K G M d) (he : M.2.1[k]? = some (.invokestatic idx, len, kt)) (hlen : len = 3) (hlink : .methodLink (clR M.1) idx y ∈ GW) (hi : MIs y My np) (hsta : .static y ∈ GW) (hC : CT G y My d1 mc ms F h As Qc) (hd : d1 < d) (hcs : cs + mc ≤ K.2.2.2.1.cells ∧ sl + ms ≤ K.2.2.2.1.slots) (hst : As.reverse ++ rest = st) (hnp : As.length = np) (hrest : catW rest ≤ 8)
    (kk : ∀ (r : Option AV) (F' : Fx) (h' : Hp), Qc r F' h' → ATk K F' (cs + mc) (sl + ms) M (k + 1) lv (r.toList ++ rest) h') : ATk K F cs sl M k lv st h := by
  subst hlen
  subst hst
  obtain ⟨hMK, hKG, hfr, hlo⟩ := hM
  have hdec := (hMK.dec he).1
  unfold ATk at kk ⊢
  rw [pcAt_succ he] at kk
  obtain ⟨⟨l, D, cy, b0, aS, aV⟩, p, ee, R, s, m, args, below, meth, c, Q⟩ := K
  subst hKG
  obtain ⟨hx, hb, hrt, hml, hown, hts, hlk, hWk⟩ := hMK.1
  obtain ⟨g1, g2, g3, g4, g5, g6⟩ := hi
  intro H locs ls hW hS hL hmx
  have hsp : ((As.reverse ++ rest).map (cv b0 aS)) = (As.map (cv b0 aS)).reverse ++ rest.map (cv b0 aS) := by simp
  rw [hsp]
  have hGi : GoodIn GW (va_wsS (clR M.1) idx y (.code y My.2.2.1 My.2.2.2.1 My.2.2.2.2 :: GW)) := goodIn_mem (by
    intro w hw
    unfold va_wsS at hw
    simp only [List.cons_append, List.nil_append, List.mem_cons] at hw
    rcases hw with rfl | rfl | rfl | rfl | hw
    · exact hlink
    · exact hsta
    · exact g2
    · exact g1
    · exact hw)
  refine run_go (va_runS (As := As.map (cv b0 aS)) (rest := rest.map (cv b0 aS)) ⟨hx, hb, hml, hown, hts⟩ hC (va_cwS np hts hGi rfl rfl rfl ⟨g3, g4, g5⟩ ⟨by show d1 + 1 ≤ R.frames; exact Nat.le_trans hd hfr, by show 8 + (My.2.2.2.1 + 11) + 34 * d1 ≤ R.locals; have : 34 * d ≤ R.locals := hlo; omega⟩) ⟨pre_blind, fun U hU hw => pre_at hU hw hW hS hWk⟩ rfl (by simpa using hnp) (hL.2.1.trans (hmx.symm.trans hml)) rfl (lv_room (by rw [catW_le]; exact hrest)) hdec hcs) hS fun r F' h' H1 locs1 hq hW1 hS1 => ?_
  exact kk r F' h' hq H1 locs1 ls hW1 hS1 hL hmx
/-- a static method of a nest mate -/
theorem A_callSN {y : MethodName} {My : Mx} {np idx len kt d1 : Nat} {host : String} {As rest : List AV} (hM : MB K G M d) (he : M.2.1[k]? = some (.invokestatic idx, len, kt)) (hlen : len = 3) (hlink : .methodLinkNest (clR M.1) idx y host ∈ NW) (hi : MIs y My np) (hsta : .static y ∈ GW) (hC : CT G y My d1 mc ms F h As Qc) (hd : d1 < d) (hcs : cs + mc ≤ K.2.2.2.1.cells ∧ sl + ms ≤ K.2.2.2.1.slots) (hst : As.reverse ++ rest = st) (hnp : As.length = np) (hrest : catW rest ≤ 8)
    (kk : ∀ (r : Option AV) (F' : Fx) (h' : Hp), Qc r F' h' → ATk K F' (cs + mc) (sl + ms) M (k + 1) lv (r.toList ++ rest) h') : ATk K F cs sl M k lv st h := by
  subst hlen
  subst hst
  obtain ⟨hMK, hKG, hfr, hlo⟩ := hM
  have hdec := (hMK.dec he).1
  unfold ATk at kk ⊢
  rw [pcAt_succ he] at kk
  obtain ⟨⟨l, D, cy, b0, aS, aV⟩, p, ee, R, s, m, args, below, meth, c, Q⟩ := K
  subst hKG
  obtain ⟨hx, hb, hrt, hml, hown, hts, hlk, hWk⟩ := hMK.1
  obtain ⟨g1, g2, g3, g4, g5, g6⟩ := hi
  intro H locs ls hW hS hL hmx
  have hsp : ((As.reverse ++ rest).map (cv b0 aS)) = (As.map (cv b0 aS)).reverse ++ rest.map (cv b0 aS) := by simp
  rw [hsp]
  have hGi : GoodIn GW (.code y My.2.2.1 My.2.2.2.1 My.2.2.2.2 :: GW) := goodIn_mem (by
    intro w hw
    rcases List.mem_cons.mp hw with rfl | hw
    · exact g1
    · exact hw)
  refine run_go (va_runSN (As := As.map (cv b0 aS)) (rest := rest.map (cv b0 aS)) ⟨hx, hb, hml, hown, hts⟩ hC ⟨va_cnB np hts hGi rfl rfl rfl (hWk.2.1 _ hlink) (hts _ g2) ⟨g3, g4, g5⟩ ⟨by show d1 + 1 ≤ R.frames; exact Nat.le_trans hd hfr, by show 8 + (My.2.2.2.1 + 11) + 34 * d1 ≤ R.locals; have : 34 * d ≤ R.locals := hlo; omega⟩, hts _ hsta, trivial⟩ ⟨pre_blind, fun U hU hw => pre_at hU hw hW hS hWk⟩ rfl (by simpa using hnp) (hL.2.1.trans (hmx.symm.trans hml)) rfl (lv_room (by rw [catW_le]; exact hrest)) hdec hcs) hS fun r F' h' H1 locs1 hq hW1 hS1 => ?_
  exact kk r F' h' hq H1 locs1 ls hW1 hS1 hL hmx
end CA2
