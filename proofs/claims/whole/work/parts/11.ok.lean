/-! WHAT A MODEL SAYS -/
def OK {α : Type} (x : Option α) (P : α → Prop) : Prop := match x with
  | some r => P r
  | none => False
theorem OK_t {α : Type} {c : Prop} {dc : Decidable c} {a b : Option α} {P : α → Prop} (hh : OK (ite c a b) P) (hc : c) : OK a P := by rwa [if_pos hc] at hh
theorem OK_f {α : Type} {c : Prop} {dc : Decidable c} {a b : Option α} {P : α → Prop} (hh : OK (ite c a b) P) (hc : ¬ c) : OK b P := by rwa [if_neg hc] at hh
theorem OK_g {α : Type} {c : Prop} {dc : Decidable c} {a : Option α} {P : α → Prop} (hh : OK (ite c a none) P) : c ∧ OK a P := by
  by_cases hc : c
  · exact ⟨hc, OK_t hh hc⟩
  · exact absurd (OK_f hh hc) (fun q => q)
theorem OK_bind {α β : Type} {x : Option α} {f : α → Option β} {P : β → Prop} (hh : OK (x.bind f) P) : OK x (fun r => OK (f r) P) := by
  cases x with
  | none => exact hh
  | some r => exact hh
theorem OK_mono {α : Type} {x : Option α} {P Q : α → Prop} (hh : OK x P) (h : ∀ r, P r → Q r) : OK x Q := by
  cases x with
  | none => exact hh
  | some r => exact h r hh
def iter0 {σ ρ : Type} (f : σ → Option (σ ⊕ ρ)) : Nat → σ → Option ρ
  | 0, _ => none
  | n + 1, s => (f s).bind (fun r => match r with
    | .inl s' => iter0 f n s'
    | .inr x => some x)
/-- a loop, hidden: nobody is to run it -/
noncomputable def iter {σ ρ : Type} (f : σ → Option (σ ⊕ ρ)) (n : Nat) (s : σ) : Option ρ := Classical.choose (⟨iter0 f n s, rfl⟩ : ∃ o, o = iter0 f n s)
theorem iter_eq {σ ρ : Type} (f : σ → Option (σ ⊕ ρ)) (n : Nat) (s : σ) : iter f n s = iter0 f n s := Classical.choose_spec (⟨iter0 f n s, rfl⟩ : ∃ o, o = iter0 f n s)
/-- how often a loop may turn -/
def FU : Nat := 1000000
theorem iter_ok {σ ρ : Type} {f : σ → Option (σ ⊕ ρ)} {n : Nat} {s : σ} {Q : ρ → Prop} {Gp : σ → Prop} {E : ρ → Prop} (hstep : ∀ (x : σ) (P : σ ⊕ ρ → Prop), OK (f x) P → (∀ y, P (.inl y) → Gp y) → (∀ y, P (.inr y) → E y) → Gp x) (hh : OK (iter f n s) Q) (hE : ∀ y, Q y → E y) : Gp s := by
  rw [iter_eq] at hh
  induction n generalizing s with
  | zero => exact absurd hh (fun q => q)
  | succ n ih =>
    have h1 := OK_bind (x := f s) hh
    refine hstep s _ h1 (fun y hy => ih hy) (fun y hy => hE y hy)
abbrev FN : Fx := (NF, rfT)
/-- the cells of the texts: drafts, plans, ways; those of slips -/
def txL : List Nat := [19, 28, 36, 44, 86, 94, 102, 110, 118, 126, 134, 142]
def spL : List Nat := [62, 64]
def okO (o : Option Nat) : Bool := match o with
  | none => true
  | some t => decide (t ∈ txL)
theorem okO_in {t : Nat} (h : okO (some t) = true) : t ∈ txL := of_decide_eq_true h
theorem okO_some {t : Nat} (h : t ∈ txL) : okO (some t) = true := decide_eq_true h
theorem tx_all : ∀ t ∈ txL, (kd t = 10 ∧ kd (t + 1) = 14 ∧ kd (t + 2) = 14 ∧ kd (t + 3) = 14 ∧ kd (t + 4) = 14 ∧ kd (t + 5) = 14 ∧ kd (t + 6) = 14 ∧ kd (t + 7) = 14) ∧ (ln (t + 1) = 12 ∧ ln (t + 2) = 12 ∧ ln (t + 3) = 12 ∧ ln (t + 4) = 160 ∧ ln (t + 5) = 160 ∧ ln (t + 6) = 26 ∧ ln (t + 7) = 64) ∧ (rfT t 2 = some (t + 1) ∧ rfT t 3 = some (t + 2) ∧ rfT t 4 = some (t + 3) ∧ rfT t 5 = some (t + 4) ∧ rfT t 6 = some (t + 5) ∧ rfT t 7 = some (t + 6) ∧ rfT t 8 = some (t + 7)) ∧ t + 7 < NF := by decide +kernel
theorem sp_all : ∀ s ∈ spL, (kd s = 8 ∧ kd (s + 1) = 14) ∧ ln (s + 1) = 40 ∧ (rfT s 0 = some 3 ∧ rfT s 1 = some 53 ∧ rfT s 2 = some (s + 1)) ∧ s + 1 < NF := by decide +kernel
theorem tx_k0 {t : Nat} (h : t ∈ txL) : kd t = 10 := (tx_all t h).1.1
theorem tx_k1 {t : Nat} (h : t ∈ txL) : kd (t + 1) = 14 := (tx_all t h).1.2.1
theorem tx_k2 {t : Nat} (h : t ∈ txL) : kd (t + 2) = 14 := (tx_all t h).1.2.2.1
theorem tx_k3 {t : Nat} (h : t ∈ txL) : kd (t + 3) = 14 := (tx_all t h).1.2.2.2.1
theorem tx_k4 {t : Nat} (h : t ∈ txL) : kd (t + 4) = 14 := (tx_all t h).1.2.2.2.2.1
theorem tx_k5 {t : Nat} (h : t ∈ txL) : kd (t + 5) = 14 := (tx_all t h).1.2.2.2.2.2.1
theorem tx_k6 {t : Nat} (h : t ∈ txL) : kd (t + 6) = 14 := (tx_all t h).1.2.2.2.2.2.2.1
theorem tx_k7 {t : Nat} (h : t ∈ txL) : kd (t + 7) = 14 := (tx_all t h).1.2.2.2.2.2.2.2
theorem tx_n1 {t : Nat} (h : t ∈ txL) : ln (t + 1) = 12 := (tx_all t h).2.1.1
theorem tx_n2 {t : Nat} (h : t ∈ txL) : ln (t + 2) = 12 := (tx_all t h).2.1.2.1
theorem tx_n3 {t : Nat} (h : t ∈ txL) : ln (t + 3) = 12 := (tx_all t h).2.1.2.2.1
theorem tx_n4 {t : Nat} (h : t ∈ txL) : ln (t + 4) = 160 := (tx_all t h).2.1.2.2.2.1
theorem tx_n5 {t : Nat} (h : t ∈ txL) : ln (t + 5) = 160 := (tx_all t h).2.1.2.2.2.2.1
theorem tx_n6 {t : Nat} (h : t ∈ txL) : ln (t + 6) = 26 := (tx_all t h).2.1.2.2.2.2.2.1
theorem tx_n7 {t : Nat} (h : t ∈ txL) : ln (t + 7) = 64 := (tx_all t h).2.1.2.2.2.2.2.2
theorem tx_r2 {t : Nat} (h : t ∈ txL) : rfT t 2 = some (t + 1) := (tx_all t h).2.2.1.1
theorem tx_r3 {t : Nat} (h : t ∈ txL) : rfT t 3 = some (t + 2) := (tx_all t h).2.2.1.2.1
theorem tx_r4 {t : Nat} (h : t ∈ txL) : rfT t 4 = some (t + 3) := (tx_all t h).2.2.1.2.2.1
theorem tx_r5 {t : Nat} (h : t ∈ txL) : rfT t 5 = some (t + 4) := (tx_all t h).2.2.1.2.2.2.1
theorem tx_r6 {t : Nat} (h : t ∈ txL) : rfT t 6 = some (t + 5) := (tx_all t h).2.2.1.2.2.2.2.1
theorem tx_r7 {t : Nat} (h : t ∈ txL) : rfT t 7 = some (t + 6) := (tx_all t h).2.2.1.2.2.2.2.2.1
theorem tx_r8 {t : Nat} (h : t ∈ txL) : rfT t 8 = some (t + 7) := (tx_all t h).2.2.1.2.2.2.2.2.2
theorem tx_l7 {t : Nat} (h : t ∈ txL) : t + 7 < NF := (tx_all t h).2.2.2
theorem tx_l0 {t : Nat} (h : t ∈ txL) : t < NF := by have := tx_l7 h; omega
theorem tx_l1 {t : Nat} (h : t ∈ txL) : t + 1 < NF := by have := tx_l7 h; omega
theorem tx_l2 {t : Nat} (h : t ∈ txL) : t + 2 < NF := by have := tx_l7 h; omega
theorem tx_l3 {t : Nat} (h : t ∈ txL) : t + 3 < NF := by have := tx_l7 h; omega
theorem tx_l4 {t : Nat} (h : t ∈ txL) : t + 4 < NF := by have := tx_l7 h; omega
theorem tx_l5 {t : Nat} (h : t ∈ txL) : t + 5 < NF := by have := tx_l7 h; omega
theorem tx_l6 {t : Nat} (h : t ∈ txL) : t + 6 < NF := by have := tx_l7 h; omega
theorem sp_k0 {s : Nat} (h : s ∈ spL) : kd s = 8 := (sp_all s h).1.1
theorem sp_k1 {s : Nat} (h : s ∈ spL) : kd (s + 1) = 14 := (sp_all s h).1.2
theorem sp_n1 {s : Nat} (h : s ∈ spL) : ln (s + 1) = 40 := (sp_all s h).2.1
theorem sp_r0 {s : Nat} (h : s ∈ spL) : rfT s 0 = some 3 := (sp_all s h).2.2.1.1
theorem sp_r1 {s : Nat} (h : s ∈ spL) : rfT s 1 = some 53 := (sp_all s h).2.2.1.2.1
theorem sp_r2 {s : Nat} (h : s ∈ spL) : rfT s 2 = some (s + 1) := (sp_all s h).2.2.1.2.2
theorem sp_l1 {s : Nat} (h : s ∈ spL) : s + 1 < NF := (sp_all s h).2.2.2
theorem sp_l0 {s : Nat} (h : s ∈ spL) : s < NF := by have := sp_l1 h; omega
theorem wt_get {i : Int} (h : inb i 8) : rfT 27 (w32 i).toNat = some (86 + 8 * (w32 i).toNat) := by
  unfold rfT
  rw [if_pos rfl, if_pos (by have := h.1; have := h.2; omega)]
theorem wt_lt {i : Int} (h : inb i 8) : ∀ x, some (86 + 8 * (w32 i).toNat) = some x → x < 1000 := by
  intro x hx
  cases hx
  have := h.1; have := h.2; omega
def cpyH (h : Hp) (a b n : Nat) : Hp := fun c i => if c = b ∧ i < n then h a i else h c i
/-- the texts' signs; the place of a sign, or -1 -/
def sCh (j : Nat) : List Int := (srL.getD j (0, 0, "", 0)).2.2.1.toList.map (fun c => (c.toNat : Int))
def sIx (j : Nat) (c : Int) : Int := match (sCh j).findIdx? (fun x => x == w32 c) with
  | some i => (i : Int)
  | none => -1
section RU4
variable {K : Kx} {G : Gx} {F : Fx} {cs sl k d : Nat} {M : Mx} {lv lv1 : List (Option AV)} {st s1 : List AV} {h h1 : Hp}
/-- a field of an object whose number is a variable -/
theorem A_gi {a idx i0 ci j i9 len kt : Nat} (hM : MK K M) (he : M.2.1[k]? = some (.getfield idx, len, kt)) (hlen : len = 3) (hl : lkF M.1 idx = some (i0, ci, j, i9)) (hkd : kd a = ci) (ha : a < F.1) (hft : (ft ci j = 0 ∨ ft ci j = 3 : Bool) = true) (kk : ATk K F cs sl M (k + 1) lv (aI (h a j) :: st) h) : ATk K F cs sl M k lv (aR a :: st) h := by
  subst hlen
  refine A_blk hM 1 (lv1 := lv) (s1 := aI (h a j) :: st) (h1 := h) ?_ kk
  have hci := (lk_spec (lk_lt hl) hl).2.2
  have hlt : a < 1000 := Nat.lt_trans (kd_in hkd (by omega)) NF_lt
  rw [List.drop_eq_getElem?_toList_append, he]
  simp only [Option.toList, List.cons_append, sxl, sx1, if_true, sxGet, hl, ha, hlt, hkd, and_self, if_true]
  simp only [Bool.decide_or, Bool.or_eq_true, decide_eq_true_eq] at hft
  rcases hft with h0 | h0 <;> simp [h0]
end RU4
