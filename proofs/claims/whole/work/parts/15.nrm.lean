/-! a number may stand for the one that it is kept as -/
theorem cv_nrm {b0 : Nat} {aS : Nat → Nat} {z : Int} : cv b0 aS (aI (w32 z)) = cv b0 aS (aI z) := by
  show Value.int _ = Value.int _
  unfold w32
  rw [Int32.ofInt_toInt]
theorem A_nrm {K : Kx} {F : Fx} {cs sl k : Nat} {M : Mx} {lv : List (Option AV)} {st : List AV} {h : Hp} {z : Int} (kk : ATk K F cs sl M k lv (aI (w32 z) :: st) h) : ATk K F cs sl M k lv (aI z :: st) h := by
  unfold ATk AT at kk ⊢
  obtain ⟨⟨l, D, cy, b0, aS, aV⟩, p, ee, R, s, m, args, below, meth, c, Q⟩ := K
  intro H locs ls hW hS hL hmx
  have h1 := kk H locs ls hW hS hL hmx
  simp only [List.map_cons, cv_nrm] at h1 ⊢
  exact h1
