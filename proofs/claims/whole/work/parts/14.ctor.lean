/-! THE CONSTRUCTORS -/
def hz0 : Hp := fun _ _ => 0
theorem KM_room (k0 : K0) (mc ms : Nat) (Qp : Option AV → Fx → Hp → Prop) {R : Room} (h : k0.2.2.2.1 = R) : (KM k0 mc ms Qp).2.2.2.1 = R := by
  obtain ⟨⟨l, D, cy, b0, aS, aV⟩, p, ee, R, s, m, args, below, meth, c⟩ := k0
  exact h
theorem KM_name (k0 : K0) (mc ms : Nat) (Qp : Option AV → Fx → Hp → Prop) {y : String} (h : k0.2.2.2.2.2.2.2.2.1.name = y) : (KM k0 mc ms Qp).2.2.2.2.2.2.2.2.1.name = y := by
  obtain ⟨⟨l, D, cy, b0, aS, aV⟩, p, ee, R, s, m, args, below, meth, c⟩ := k0
  exact h
theorem rm_le {R : Room} {d mc ms a b : Nat} (h : R = rmD d mc ms) (h1 : Nat.ble a mc = true) (h2 : Nat.ble b ms = true) : a ≤ R.cells ∧ b ≤ R.slots := by
  subst h
  exact ⟨Nat.le_of_ble_eq_true h1, Nat.le_of_ble_eq_true h2⟩
def t_X11_init : List IT := [(.aload_n 0, 1, 0), (.invokespecial 1, 3, 0), (.aload_n 0, 1, 0), (.new 7, 3, 0), (.dup, 1, 0), (.invokespecial 9, 3, 0), (.putfield 10, 3, 0), (.aload_n 0, 1, 0), (.new 16, 3, 0), (.dup, 1, 0), (.invokespecial 18, 3, 0), (.putfield 19, 3, 0), (.aload_n 0, 1, 0), (.new 23, 3, 0), (.dup, 1, 0), (.aload_n 0, 1, 0), (.getfield 10, 3, 0), (.invokespecial 25, 3, 0), (.putfield 28, 3, 0), (.aload_n 0, 1, 0), (.bipush 8, 2, 0), (.anewarray 32, 3, 0), (.putfield 34, 3, 0), (.aload_n 0, 1, 0), (.new 32, 3, 0), (.dup, 1, 0), (.invokespecial 38, 3, 0), (.putfield 39, 3, 0), (.aload_n 0, 1, 0), (.new 32, 3, 0), (.dup, 1, 0), (.invokespecial 38, 3, 0), (.putfield 43, 3, 0), (.aload_n 0, 1, 0), (.new 32, 3, 0), (.dup, 1, 0), (.invokespecial 38, 3, 0), (.putfield 46, 3, 0), (.aload_n 0, 1, 0), (.new 49, 3, 0), (.dup, 1, 0), (.invokespecial 51, 3, 0), (.putfield 52, 3, 0), (.aload_n 0, 1, 0), (.new 56, 3, 0), (.dup, 1, 0), (.aload_n 0, 1, 0), (.getfield 19, 3, 0), (.invokespecial 58, 3, 0), (.putfield 61, 3, 0), (.aload_n 0, 1, 0), (.new 65, 3, 0), (.dup, 1, 0), (.aload_n 0, 1, 0), (.getfield 19, 3, 0), (.aload_n 0, 1, 0), (.getfield 61, 3, 0), (.aload_n 0, 1, 0), (.getfield 52, 3, 0), (.invokespecial 67, 3, 0), (.putfield 70, 3, 0), (.aload_n 0, 1, 0), (.new 74, 3, 0), (.dup, 1, 0), (.aload_n 0, 1, 0), (.getfield 19, 3, 0), (.aload_n 0, 1, 0), (.getfield 39, 3, 0), (.invokespecial 76, 3, 0), (.putfield 79, 3, 0), (.aload_n 0, 1, 0), (.new 83, 3, 0), (.dup, 1, 0), (.aload_n 0, 1, 0), (.getfield 19, 3, 0), (.aload_n 0, 1, 0), (.getfield 43, 3, 0), (.invokespecial 85, 3, 0), (.putfield 86, 3, 0), (.aload_n 0, 1, 0), (.new 90, 3, 0), (.dup, 1, 0), (.aload_n 0, 1, 0), (.getfield 19, 3, 0), (.invokespecial 92, 3, 0), (.putfield 93, 3, 0), (.aload_n 0, 1, 0), (.bipush 8, 2, 0), (.newarray .int, 2, 0), (.putfield 97, 3, 0), (.aload_n 0, 1, 0), (.iconst 1, 1, 0), (.putfield 101, 3, 0), (.iconst 0, 1, 0), (.istore_n 1, 1, 0), (.iload_n 1, 1, 0), (.bipush 8, 2, 0), (.if_icmp .ge 22, 3, 107), (.aload_n 0, 1, 0), (.getfield 34, 3, 0), (.iload_n 1, 1, 0), (.new 32, 3, 0), (.dup, 1, 0), (.invokespecial 38, 3, 0), (.aastore, 1, 0), (.iinc 1 1, 3, 0), (.goto (-22), 3, 95), (.return_, 1, 0)]
abbrev M_X11_init : Mx := (11, t_X11_init, cX11_init, 2, none)
theorem k_X11_init : tabOK M_X11_init = true := by decide +kernel
theorem mi_X11_init : MIs yX11_init M_X11_init 0 := ⟨(mem_GW 149 (by decide +kernel) rfl), (mem_GW 123 (by decide +kernel) rfl), by decide +kernel, by decide +kernel, by decide +kernel, by decide⟩
theorem in_X11_init : .instanceMethod yX11_init ∈ GW := (mem_GW 148 (by decide +kernel) rfl)
def t_X9_init : List IT := [(.aload_n 0, 1, 0), (.invokespecial 3, 3, 0), (.aload_n 0, 1, 0), (.sipush 200, 3, 0), (.newarray .int, 2, 0), (.putfield 11, 3, 0), (.return_, 1, 0)]
abbrev M_X9_init : Mx := (9, t_X9_init, cX9_init, 1, none)
theorem k_X9_init : tabOK M_X9_init = true := by decide +kernel
theorem mi_X9_init : MIs yX9_init M_X9_init 0 := ⟨(mem_GW 157 (by decide +kernel) rfl), (mem_GW 124 (by decide +kernel) rfl), by decide +kernel, by decide +kernel, by decide +kernel, by decide⟩
theorem in_X9_init : .instanceMethod yX9_init ∈ GW := (mem_GW 156 (by decide +kernel) rfl)
def t_X7_init : List IT := [(.aload_n 0, 1, 0), (.invokespecial 3, 3, 0), (.aload_n 0, 1, 0), (.bipush 8, 2, 0), (.newarray .int, 2, 0), (.putfield 9, 3, 0), (.aload_n 0, 1, 0), (.bipush 8, 2, 0), (.newarray .int, 2, 0), (.putfield 15, 3, 0), (.aload_n 0, 1, 0), (.bipush 8, 2, 0), (.newarray .int, 2, 0), (.putfield 18, 3, 0), (.aload_n 0, 1, 0), (.bipush 8, 2, 0), (.newarray .int, 2, 0), (.putfield 21, 3, 0), (.aload_n 0, 1, 0), (.bipush 8, 2, 0), (.newarray .int, 2, 0), (.putfield 24, 3, 0), (.aload_n 0, 1, 0), (.sipush 320, 3, 0), (.newarray .int, 2, 0), (.putfield 27, 3, 0), (.aload_n 0, 1, 0), (.sipush 320, 3, 0), (.newarray .int, 2, 0), (.putfield 30, 3, 0), (.aload_n 0, 1, 0), (.bipush 8, 2, 0), (.newarray .int, 2, 0), (.putfield 33, 3, 0), (.aload_n 0, 1, 0), (.bipush 40, 2, 0), (.newarray .int, 2, 0), (.putfield 36, 3, 0), (.aload_n 0, 1, 0), (.bipush 40, 2, 0), (.newarray .int, 2, 0), (.putfield 39, 3, 0), (.aload_n 0, 1, 0), (.bipush 40, 2, 0), (.newarray .int, 2, 0), (.putfield 42, 3, 0), (.aload_n 0, 1, 0), (.bipush 40, 2, 0), (.newarray .int, 2, 0), (.putfield 45, 3, 0), (.aload_n 0, 1, 0), (.bipush 40, 2, 0), (.newarray .int, 2, 0), (.putfield 48, 3, 0), (.aload_n 0, 1, 0), (.sipush 320, 3, 0), (.newarray .int, 2, 0), (.putfield 51, 3, 0), (.return_, 1, 0)]
abbrev M_X7_init : Mx := (7, t_X7_init, cX7_init, 1, none)
theorem k_X7_init : tabOK M_X7_init = true := by decide +kernel
theorem mi_X7_init : MIs yX7_init M_X7_init 0 := ⟨(mem_GW 171 (by decide +kernel) rfl), (mem_GW 125 (by decide +kernel) rfl), by decide +kernel, by decide +kernel, by decide +kernel, by decide⟩
theorem in_X7_init : .instanceMethod yX7_init ∈ GW := (mem_GW 170 (by decide +kernel) rfl)
def t_X6_init : List IT := [(.aload_n 0, 1, 0), (.invokespecial 3, 3, 0), (.aload_n 0, 1, 0), (.new 9, 3, 0), (.dup, 1, 0), (.invokespecial 11, 3, 0), (.putfield 12, 3, 0), (.aload_n 0, 1, 0), (.aload_n 1, 1, 0), (.putfield 18, 3, 0), (.return_, 1, 0)]
abbrev M_X6_init : Mx := (6, t_X6_init, cX6_init, 2, none)
theorem k_X6_init : tabOK M_X6_init = true := by decide +kernel
theorem mi_X6_init : MIs yX6_init M_X6_init 1 := ⟨(mem_GW 232 (by decide +kernel) rfl), (mem_GW 126 (by decide +kernel) rfl), by decide +kernel, by decide +kernel, by decide +kernel, by decide⟩
theorem in_X6_init : .instanceMethod yX6_init ∈ GW := (mem_GW 231 (by decide +kernel) rfl)
def t_X10_init : List IT := [(.aload_n 0, 1, 0), (.invokespecial 1, 3, 0), (.aload_n 0, 1, 0), (.bipush 12, 2, 0), (.newarray .int, 2, 0), (.putfield 9, 3, 0), (.aload_n 0, 1, 0), (.bipush 12, 2, 0), (.newarray .int, 2, 0), (.putfield 13, 3, 0), (.aload_n 0, 1, 0), (.bipush 12, 2, 0), (.newarray .int, 2, 0), (.putfield 16, 3, 0), (.aload_n 0, 1, 0), (.sipush 160, 3, 0), (.newarray .int, 2, 0), (.putfield 19, 3, 0), (.aload_n 0, 1, 0), (.sipush 160, 3, 0), (.newarray .int, 2, 0), (.putfield 22, 3, 0), (.aload_n 0, 1, 0), (.bipush 26, 2, 0), (.newarray .int, 2, 0), (.putfield 25, 3, 0), (.aload_n 0, 1, 0), (.bipush 64, 2, 0), (.newarray .int, 2, 0), (.putfield 28, 3, 0), (.return_, 1, 0)]
abbrev M_X10_init : Mx := (10, t_X10_init, cX10_init, 1, none)
theorem k_X10_init : tabOK M_X10_init = true := by decide +kernel
theorem mi_X10_init : MIs yX10_init M_X10_init 0 := ⟨(mem_GW 238 (by decide +kernel) rfl), (mem_GW 127 (by decide +kernel) rfl), by decide +kernel, by decide +kernel, by decide +kernel, by decide⟩
theorem in_X10_init : .instanceMethod yX10_init ∈ GW := (mem_GW 237 (by decide +kernel) rfl)
def t_X4_init : List IT := [(.aload_n 0, 1, 0), (.invokespecial 1, 3, 0), (.aload_n 0, 1, 0), (.lconst 1, 1, 0), (.putfield 7, 3, 0), (.return_, 1, 0)]
abbrev M_X4_init : Mx := (4, t_X4_init, cX4_init, 1, none)
theorem k_X4_init : tabOK M_X4_init = true := by decide +kernel
theorem mi_X4_init : MIs yX4_init M_X4_init 0 := ⟨(mem_GW 297 (by decide +kernel) rfl), (mem_GW 128 (by decide +kernel) rfl), by decide +kernel, by decide +kernel, by decide +kernel, by decide⟩
theorem in_X4_init : .instanceMethod yX4_init ∈ GW := (mem_GW 296 (by decide +kernel) rfl)
def t_X1_init : List IT := [(.aload_n 0, 1, 0), (.invokespecial 3, 3, 0), (.aload_n 0, 1, 0), (.bipush 9, 2, 0), (.newarray .int, 2, 0), (.putfield 11, 3, 0), (.aload_n 0, 1, 0), (.sipush 320, 3, 0), (.newarray .boolean, 2, 0), (.putfield 15, 3, 0), (.aload_n 0, 1, 0), (.sipush 320, 3, 0), (.newarray .int, 2, 0), (.putfield 19, 3, 0), (.aload_n 0, 1, 0), (.sipush 320, 3, 0), (.newarray .int, 2, 0), (.putfield 22, 3, 0), (.aload_n 0, 1, 0), (.sipush 320, 3, 0), (.newarray .int, 2, 0), (.putfield 25, 3, 0), (.aload_n 0, 1, 0), (.bipush 81, 2, 0), (.newarray .int, 2, 0), (.putfield 28, 3, 0), (.aload_n 0, 1, 0), (.bipush 8, 2, 0), (.newarray .int, 2, 0), (.putfield 31, 3, 0), (.aload_n 0, 1, 0), (.aload_n 1, 1, 0), (.putfield 34, 3, 0), (.return_, 1, 0)]
abbrev M_X1_init : Mx := (1, t_X1_init, cX1_init, 2, none)
theorem k_X1_init : tabOK M_X1_init = true := by decide +kernel
theorem mi_X1_init : MIs yX1_init M_X1_init 1 := ⟨(mem_GW 310 (by decide +kernel) rfl), (mem_GW 129 (by decide +kernel) rfl), by decide +kernel, by decide +kernel, by decide +kernel, by decide⟩
theorem in_X1_init : .instanceMethod yX1_init ∈ GW := (mem_GW 309 (by decide +kernel) rfl)
def t_X2_init : List IT := [(.aload_n 0, 1, 0), (.invokespecial 3, 3, 0), (.aload_n 0, 1, 0), (.aload_n 1, 1, 0), (.putfield 9, 3, 0), (.aload_n 0, 1, 0), (.aload_n 3, 1, 0), (.putfield 15, 3, 0), (.aload_n 0, 1, 0), (.new 19, 3, 0), (.dup, 1, 0), (.aload_n 1, 1, 0), (.aload_n 2, 1, 0), (.invokespecial 21, 3, 0), (.putfield 24, 3, 0), (.aload_n 0, 1, 0), (.new 19, 3, 0), (.dup, 1, 0), (.aload_n 1, 1, 0), (.aload_n 2, 1, 0), (.invokespecial 21, 3, 0), (.putfield 28, 3, 0), (.return_, 1, 0)]
abbrev M_X2_init : Mx := (2, t_X2_init, cX2_init, 4, none)
theorem k_X2_init : tabOK M_X2_init = true := by decide +kernel
theorem mi_X2_init : MIs yX2_init M_X2_init 3 := ⟨(mem_GW 342 (by decide +kernel) rfl), (mem_GW 130 (by decide +kernel) rfl), by decide +kernel, by decide +kernel, by decide +kernel, by decide⟩
theorem in_X2_init : .instanceMethod yX2_init ∈ GW := (mem_GW 341 (by decide +kernel) rfl)
def t_X8_init : List IT := [(.aload_n 0, 1, 0), (.invokespecial 3, 3, 0), (.aload_n 0, 1, 0), (.bipush 40, 2, 0), (.newarray .int, 2, 0), (.putfield 9, 3, 0), (.aload_n 0, 1, 0), (.aload_n 1, 1, 0), (.putfield 15, 3, 0), (.aload_n 0, 1, 0), (.aload_n 2, 1, 0), (.putfield 19, 3, 0), (.return_, 1, 0)]
abbrev M_X8_init : Mx := (8, t_X8_init, cX8_init, 3, none)
theorem k_X8_init : tabOK M_X8_init = true := by decide +kernel
theorem mi_X8_init : MIs yX8_init M_X8_init 2 := ⟨(mem_GW 348 (by decide +kernel) rfl), (mem_GW 131 (by decide +kernel) rfl), by decide +kernel, by decide +kernel, by decide +kernel, by decide⟩
theorem in_X8_init : .instanceMethod yX8_init ∈ GW := (mem_GW 347 (by decide +kernel) rfl)
def t_X5_init : List IT := [(.aload_n 0, 1, 0), (.invokespecial 3, 3, 0), (.aload_n 0, 1, 0), (.bipush 60, 2, 0), (.newarray .int, 2, 0), (.putfield 11, 3, 0), (.aload_n 0, 1, 0), (.bipush 60, 2, 0), (.newarray .int, 2, 0), (.putfield 15, 3, 0), (.aload_n 0, 1, 0), (.bipush 10, 2, 0), (.newarray .int, 2, 0), (.putfield 18, 3, 0), (.aload_n 0, 1, 0), (.bipush 10, 2, 0), (.newarray .int, 2, 0), (.putfield 21, 3, 0), (.aload_n 0, 1, 0), (.bipush 100, 2, 0), (.newarray .int, 2, 0), (.putfield 24, 3, 0), (.aload_n 0, 1, 0), (.sipush 10240, 3, 0), (.newarray .int, 2, 0), (.putfield 27, 3, 0), (.aload_n 0, 1, 0), (.sipush 10240, 3, 0), (.newarray .int, 2, 0), (.putfield 30, 3, 0), (.aload_n 0, 1, 0), (.bipush 10, 2, 0), (.newarray .int, 2, 0), (.putfield 33, 3, 0), (.aload_n 0, 1, 0), (.sipush 1024, 3, 0), (.newarray .int, 2, 0), (.putfield 36, 3, 0), (.aload_n 0, 1, 0), (.bipush 10, 2, 0), (.newarray .int, 2, 0), (.putfield 39, 3, 0), (.aload_n 0, 1, 0), (.iconst (-1), 1, 0), (.putfield 42, 3, 0), (.aload_n 0, 1, 0), (.aload_n 1, 1, 0), (.putfield 46, 3, 0), (.aload_n 0, 1, 0), (.aload_n 2, 1, 0), (.putfield 50, 3, 0), (.return_, 1, 0)]
abbrev M_X5_init : Mx := (5, t_X5_init, cX5_init, 3, none)
theorem k_X5_init : tabOK M_X5_init = true := by decide +kernel
theorem mi_X5_init : MIs yX5_init M_X5_init 2 := ⟨(mem_GW 401 (by decide +kernel) rfl), (mem_GW 132 (by decide +kernel) rfl), by decide +kernel, by decide +kernel, by decide +kernel, by decide⟩
theorem in_X5_init : .instanceMethod yX5_init ∈ GW := (mem_GW 400 (by decide +kernel) rfl)
def t_X0_init : List IT := [(.aload_n 0, 1, 0), (.invokespecial 3, 3, 0), (.aload_n 0, 1, 0), (.bipush 64, 2, 0), (.newarray .int, 2, 0), (.putfield 9, 3, 0), (.aload_n 0, 1, 0), (.bipush 10, 2, 0), (.newarray .int, 2, 0), (.putfield 15, 3, 0), (.aload_n 0, 1, 0), (.bipush 100, 2, 0), (.newarray .int, 2, 0), (.putfield 18, 3, 0), (.aload_n 0, 1, 0), (.aload_n 1, 1, 0), (.putfield 21, 3, 0), (.aload_n 0, 1, 0), (.aload_n 2, 1, 0), (.putfield 25, 3, 0), (.return_, 1, 0)]
abbrev M_X0_init : Mx := (0, t_X0_init, cX0_init, 3, none)
theorem k_X0_init : tabOK M_X0_init = true := by decide +kernel
theorem mi_X0_init : MIs yX0_init M_X0_init 2 := ⟨(mem_GW 462 (by decide +kernel) rfl), (mem_GW 133 (by decide +kernel) rfl), by decide +kernel, by decide +kernel, by decide +kernel, by decide⟩
theorem in_X0_init : .instanceMethod yX0_init ∈ GW := (mem_GW 461 (by decide +kernel) rfl)
def t_X3_init : List IT := [(.aload_n 0, 1, 0), (.invokespecial 3, 3, 0), (.aload_n 0, 1, 0), (.bipush 60, 2, 0), (.newarray .int, 2, 0), (.putfield 11, 3, 0), (.aload_n 0, 1, 0), (.bipush 60, 2, 0), (.newarray .int, 2, 0), (.putfield 15, 3, 0), (.aload_n 0, 1, 0), (.bipush 60, 2, 0), (.newarray .int, 2, 0), (.putfield 18, 3, 0), (.aload_n 0, 1, 0), (.aload_n 1, 1, 0), (.putfield 21, 3, 0), (.return_, 1, 0)]
abbrev M_X3_init : Mx := (3, t_X3_init, cX3_init, 2, none)
theorem k_X3_init : tabOK M_X3_init = true := by decide +kernel
theorem mi_X3_init : MIs yX3_init M_X3_init 1 := ⟨(mem_GW 505 (by decide +kernel) rfl), (mem_GW 134 (by decide +kernel) rfl), by decide +kernel, by decide +kernel, by decide +kernel, by decide⟩
theorem in_X3_init : .instanceMethod yX3_init ∈ GW := (mem_GW 504 (by decide +kernel) rfl)
def t_X12_init : List IT := [(.aload_n 0, 1, 0), (.invokespecial 1, 3, 0), (.aload_n 0, 1, 0), (.sipush 200, 3, 0), (.newarray .byte, 2, 0), (.putfield 7, 3, 0), (.aload_n 0, 1, 0), (.iconst 1, 1, 0), (.putfield 13, 3, 0), (.aload_n 0, 1, 0), (.bipush 8, 2, 0), (.newarray .int, 2, 0), (.putfield 17, 3, 0), (.aload_n 0, 1, 0), (.bipush 8, 2, 0), (.newarray .int, 2, 0), (.putfield 21, 3, 0), (.aload_n 0, 1, 0), (.bipush 8, 2, 0), (.newarray .int, 2, 0), (.putfield 24, 3, 0), (.aload_n 0, 1, 0), (.bipush 8, 2, 0), (.newarray .int, 2, 0), (.putfield 27, 3, 0), (.aload_n 0, 1, 0), (.bipush 8, 2, 0), (.newarray .int, 2, 0), (.putfield 30, 3, 0), (.aload_n 0, 1, 0), (.sipush 320, 3, 0), (.newarray .int, 2, 0), (.putfield 33, 3, 0), (.aload_n 0, 1, 0), (.sipush 320, 3, 0), (.newarray .int, 2, 0), (.putfield 36, 3, 0), (.aload_n 0, 1, 0), (.bipush 8, 2, 0), (.newarray .int, 2, 0), (.putfield 39, 3, 0), (.aload_n 0, 1, 0), (.bipush 40, 2, 0), (.newarray .int, 2, 0), (.putfield 42, 3, 0), (.aload_n 0, 1, 0), (.bipush 40, 2, 0), (.newarray .int, 2, 0), (.putfield 45, 3, 0), (.aload_n 0, 1, 0), (.bipush 40, 2, 0), (.newarray .int, 2, 0), (.putfield 48, 3, 0), (.aload_n 0, 1, 0), (.bipush 40, 2, 0), (.newarray .int, 2, 0), (.putfield 51, 3, 0), (.aload_n 0, 1, 0), (.bipush 40, 2, 0), (.newarray .int, 2, 0), (.putfield 54, 3, 0), (.aload_n 0, 1, 0), (.sipush 320, 3, 0), (.newarray .int, 2, 0), (.putfield 57, 3, 0), (.aload_n 0, 1, 0), (.bipush 11, 2, 0), (.newarray .int, 2, 0), (.putfield 60, 3, 0), (.aload_n 0, 1, 0), (.sipush 132, 3, 0), (.newarray .int, 2, 0), (.putfield 63, 3, 0), (.aload_n 0, 1, 0), (.sipush 132, 3, 0), (.newarray .int, 2, 0), (.putfield 66, 3, 0), (.aload_n 0, 1, 0), (.sipush 132, 3, 0), (.newarray .int, 2, 0), (.putfield 69, 3, 0), (.aload_n 0, 1, 0), (.sipush 132, 3, 0), (.newarray .int, 2, 0), (.putfield 72, 3, 0), (.aload_n 0, 1, 0), (.sipush 1760, 3, 0), (.newarray .int, 2, 0), (.putfield 75, 3, 0), (.aload_n 0, 1, 0), (.sipush 1760, 3, 0), (.newarray .int, 2, 0), (.putfield 78, 3, 0), (.aload_n 0, 1, 0), (.bipush 12, 2, 0), (.newarray .int, 2, 0), (.putfield 81, 3, 0), (.aload_n 0, 1, 0), (.bipush 12, 2, 0), (.newarray .int, 2, 0), (.putfield 84, 3, 0), (.aload_n 0, 1, 0), (.bipush 12, 2, 0), (.newarray .int, 2, 0), (.putfield 87, 3, 0), (.aload_n 0, 1, 0), (.bipush 12, 2, 0), (.newarray .int, 2, 0), (.putfield 90, 3, 0), (.aload_n 0, 1, 0), (.sipush 160, 3, 0), (.newarray .int, 2, 0), (.putfield 93, 3, 0), (.aload_n 0, 1, 0), (.sipush 160, 3, 0), (.newarray .int, 2, 0), (.putfield 96, 3, 0), (.aload_n 0, 1, 0), (.sipush 200, 3, 0), (.newarray .int, 2, 0), (.putfield 99, 3, 0), (.aload_n 0, 1, 0), (.sipush 200, 3, 0), (.newarray .int, 2, 0), (.putfield 102, 3, 0), (.aload_n 0, 1, 0), (.sipush 200, 3, 0), (.newarray .boolean, 2, 0), (.putfield 105, 3, 0), (.aload_n 0, 1, 0), (.bipush 9, 2, 0), (.newarray .int, 2, 0), (.putfield 109, 3, 0), (.aload_n 0, 1, 0), (.bipush 81, 2, 0), (.newarray .int, 2, 0), (.putfield 112, 3, 0), (.aload_n 0, 1, 0), (.bipush 8, 2, 0), (.newarray .int, 2, 0), (.putfield 115, 3, 0), (.aload_n 0, 1, 0), (.sipush 320, 3, 0), (.newarray .int, 2, 0), (.putfield 118, 3, 0), (.aload_n 0, 1, 0), (.bipush 8, 2, 0), (.newarray .int, 2, 0), (.putfield 121, 3, 0), (.aload_n 0, 1, 0), (.bipush 60, 2, 0), (.newarray .int, 2, 0), (.putfield 124, 3, 0), (.aload_n 0, 1, 0), (.bipush 60, 2, 0), (.newarray .int, 2, 0), (.putfield 127, 3, 0), (.aload_n 0, 1, 0), (.bipush 10, 2, 0), (.newarray .int, 2, 0), (.putfield 130, 3, 0), (.aload_n 0, 1, 0), (.bipush 10, 2, 0), (.newarray .int, 2, 0), (.putfield 133, 3, 0), (.aload_n 0, 1, 0), (.bipush 100, 2, 0), (.newarray .int, 2, 0), (.putfield 136, 3, 0), (.aload_n 0, 1, 0), (.sipush 10240, 3, 0), (.newarray .int, 2, 0), (.putfield 139, 3, 0), (.aload_n 0, 1, 0), (.sipush 10240, 3, 0), (.newarray .long, 2, 0), (.putfield 142, 3, 0), (.aload_n 0, 1, 0), (.sipush 512, 3, 0), (.newarray .int, 2, 0), (.putfield 146, 3, 0), (.aload_n 0, 1, 0), (.bipush 8, 2, 0), (.newarray .int, 2, 0), (.putfield 149, 3, 0), (.aload_n 0, 1, 0), (.bipush 60, 2, 0), (.newarray .int, 2, 0), (.putfield 152, 3, 0), (.aload_n 0, 1, 0), (.bipush 60, 2, 0), (.newarray .int, 2, 0), (.putfield 155, 3, 0), (.aload_n 0, 1, 0), (.bipush 60, 2, 0), (.newarray .int, 2, 0), (.putfield 158, 3, 0), (.return_, 1, 0)]
abbrev M_X12_init : Mx := (12, t_X12_init, cX12_init, 1, none)
theorem k_X12_init : tabOK M_X12_init = true := by decide +kernel
theorem mi_X12_init : MIs yX12_init M_X12_init 0 := ⟨(mem_GW 1594 (by decide +kernel) rfl), (mem_GW 135 (by decide +kernel) rfl), by decide +kernel, by decide +kernel, by decide +kernel, by decide⟩
theorem in_X12_init : .instanceMethod yX12_init ∈ GW := (mem_GW 1593 (by decide +kernel) rfl)
set_option maxRecDepth 20000 in
set_option maxHeartbeats 4000000 in
theorem ci_2 {G : Gx} : CT G yX9_init M_X9_init 2 1 200 (2, rfS 0) hz0 [aR 1] (fun r F' h' => F' = (3, rfS 1) ∧ r = none ∧ h' = hz0) := by
  refine CT.of (by decide +kernel) rfl (Nat.le_of_ble_eq_true rfl) k_X9_init fun k0 hrm0 hnm0 hM => ?_
  have hrm := KM_room k0 1 200 (fun r F' h' => F' = (3, rfS 1) ∧ r = none ∧ h' = hz0) hrm0
  have hnm := KM_name k0 1 200 (fun r F' h' => F' = (3, rfS 1) ∧ r = none ∧ h' = hz0) hnm0
  refine A_blk hM.1 1 (lv1 := [some (aR 1)]) (s1 := [aR 1]) (h1 := hz0) rfl ?_
  refine A_obj hM (by decide) rfl rfl (mem_GW 158 (by decide +kernel) rfl) (by decide) (Nat.le_of_ble_eq_true rfl) ?_
  refine A_blk hM.1 2 (lv1 := [some (aR 1)]) (s1 := [aI 200, aR 1]) (h1 := hz0) rfl ?_
  refine A_newi hM.1 rfl rfl (L := 200) rfl rfl (by decide) (fun j => rfl) rfl (by decide) (rm_le hrm rfl rfl) ?_
  refine A_putr hM.1 rfl rfl rfl rfl (by decide) rfl (Or.inr ⟨rfl, hnm⟩) (by decide) rfl ?_
  exact A_retv hM.1 rfl rfl rfl ⟨rfl, rfl, rfl⟩
set_option maxRecDepth 20000 in
set_option maxHeartbeats 4000000 in
theorem ci_3 {G : Gx} : CT G yX7_init M_X7_init 2 14 1208 (4, rfS 2) hz0 [aR 3] (fun r F' h' => F' = (18, rfS 16) ∧ r = none ∧ h' = hz0) := by
  refine CT.of (by decide +kernel) rfl (Nat.le_of_ble_eq_true rfl) k_X7_init fun k0 hrm0 hnm0 hM => ?_
  have hrm := KM_room k0 14 1208 (fun r F' h' => F' = (18, rfS 16) ∧ r = none ∧ h' = hz0) hrm0
  have hnm := KM_name k0 14 1208 (fun r F' h' => F' = (18, rfS 16) ∧ r = none ∧ h' = hz0) hnm0
  refine A_blk hM.1 1 (lv1 := [some (aR 3)]) (s1 := [aR 3]) (h1 := hz0) rfl ?_
  refine A_obj hM (by decide) rfl rfl (mem_GW 172 (by decide +kernel) rfl) (by decide) (Nat.le_of_ble_eq_true rfl) ?_
  refine A_blk hM.1 2 (lv1 := [some (aR 3)]) (s1 := [aI 8, aR 3]) (h1 := hz0) rfl ?_
  refine A_newi hM.1 rfl rfl (L := 8) rfl rfl (by decide) (fun j => rfl) rfl (by decide) (rm_le hrm rfl rfl) ?_
  refine A_putr hM.1 rfl rfl rfl rfl (by decide) rfl (Or.inr ⟨rfl, hnm⟩) (by decide) rfl ?_
  refine A_blk hM.1 2 (lv1 := [some (aR 3)]) (s1 := [aI 8, aR 3]) (h1 := hz0) rfl ?_
  refine A_newi hM.1 rfl rfl (L := 8) rfl rfl (by decide) (fun j => rfl) rfl (by decide) (rm_le hrm rfl rfl) ?_
  refine A_putr hM.1 rfl rfl rfl rfl (by decide) rfl (Or.inr ⟨rfl, hnm⟩) (by decide) rfl ?_
  refine A_blk hM.1 2 (lv1 := [some (aR 3)]) (s1 := [aI 8, aR 3]) (h1 := hz0) rfl ?_
  refine A_newi hM.1 rfl rfl (L := 8) rfl rfl (by decide) (fun j => rfl) rfl (by decide) (rm_le hrm rfl rfl) ?_
  refine A_putr hM.1 rfl rfl rfl rfl (by decide) rfl (Or.inr ⟨rfl, hnm⟩) (by decide) rfl ?_
  refine A_blk hM.1 2 (lv1 := [some (aR 3)]) (s1 := [aI 8, aR 3]) (h1 := hz0) rfl ?_
  refine A_newi hM.1 rfl rfl (L := 8) rfl rfl (by decide) (fun j => rfl) rfl (by decide) (rm_le hrm rfl rfl) ?_
  refine A_putr hM.1 rfl rfl rfl rfl (by decide) rfl (Or.inr ⟨rfl, hnm⟩) (by decide) rfl ?_
  refine A_blk hM.1 2 (lv1 := [some (aR 3)]) (s1 := [aI 8, aR 3]) (h1 := hz0) rfl ?_
  refine A_newi hM.1 rfl rfl (L := 8) rfl rfl (by decide) (fun j => rfl) rfl (by decide) (rm_le hrm rfl rfl) ?_
  refine A_putr hM.1 rfl rfl rfl rfl (by decide) rfl (Or.inr ⟨rfl, hnm⟩) (by decide) rfl ?_
  refine A_blk hM.1 2 (lv1 := [some (aR 3)]) (s1 := [aI 320, aR 3]) (h1 := hz0) rfl ?_
  refine A_newi hM.1 rfl rfl (L := 320) rfl rfl (by decide) (fun j => rfl) rfl (by decide) (rm_le hrm rfl rfl) ?_
  refine A_putr hM.1 rfl rfl rfl rfl (by decide) rfl (Or.inr ⟨rfl, hnm⟩) (by decide) rfl ?_
  refine A_blk hM.1 2 (lv1 := [some (aR 3)]) (s1 := [aI 320, aR 3]) (h1 := hz0) rfl ?_
  refine A_newi hM.1 rfl rfl (L := 320) rfl rfl (by decide) (fun j => rfl) rfl (by decide) (rm_le hrm rfl rfl) ?_
  refine A_putr hM.1 rfl rfl rfl rfl (by decide) rfl (Or.inr ⟨rfl, hnm⟩) (by decide) rfl ?_
  refine A_blk hM.1 2 (lv1 := [some (aR 3)]) (s1 := [aI 8, aR 3]) (h1 := hz0) rfl ?_
  refine A_newi hM.1 rfl rfl (L := 8) rfl rfl (by decide) (fun j => rfl) rfl (by decide) (rm_le hrm rfl rfl) ?_
  refine A_putr hM.1 rfl rfl rfl rfl (by decide) rfl (Or.inr ⟨rfl, hnm⟩) (by decide) rfl ?_
  refine A_blk hM.1 2 (lv1 := [some (aR 3)]) (s1 := [aI 40, aR 3]) (h1 := hz0) rfl ?_
  refine A_newi hM.1 rfl rfl (L := 40) rfl rfl (by decide) (fun j => rfl) rfl (by decide) (rm_le hrm rfl rfl) ?_
  refine A_putr hM.1 rfl rfl rfl rfl (by decide) rfl (Or.inr ⟨rfl, hnm⟩) (by decide) rfl ?_
  refine A_blk hM.1 2 (lv1 := [some (aR 3)]) (s1 := [aI 40, aR 3]) (h1 := hz0) rfl ?_
  refine A_newi hM.1 rfl rfl (L := 40) rfl rfl (by decide) (fun j => rfl) rfl (by decide) (rm_le hrm rfl rfl) ?_
  refine A_putr hM.1 rfl rfl rfl rfl (by decide) rfl (Or.inr ⟨rfl, hnm⟩) (by decide) rfl ?_
  refine A_blk hM.1 2 (lv1 := [some (aR 3)]) (s1 := [aI 40, aR 3]) (h1 := hz0) rfl ?_
  refine A_newi hM.1 rfl rfl (L := 40) rfl rfl (by decide) (fun j => rfl) rfl (by decide) (rm_le hrm rfl rfl) ?_
  refine A_putr hM.1 rfl rfl rfl rfl (by decide) rfl (Or.inr ⟨rfl, hnm⟩) (by decide) rfl ?_
  refine A_blk hM.1 2 (lv1 := [some (aR 3)]) (s1 := [aI 40, aR 3]) (h1 := hz0) rfl ?_
  refine A_newi hM.1 rfl rfl (L := 40) rfl rfl (by decide) (fun j => rfl) rfl (by decide) (rm_le hrm rfl rfl) ?_
  refine A_putr hM.1 rfl rfl rfl rfl (by decide) rfl (Or.inr ⟨rfl, hnm⟩) (by decide) rfl ?_
  refine A_blk hM.1 2 (lv1 := [some (aR 3)]) (s1 := [aI 40, aR 3]) (h1 := hz0) rfl ?_
  refine A_newi hM.1 rfl rfl (L := 40) rfl rfl (by decide) (fun j => rfl) rfl (by decide) (rm_le hrm rfl rfl) ?_
  refine A_putr hM.1 rfl rfl rfl rfl (by decide) rfl (Or.inr ⟨rfl, hnm⟩) (by decide) rfl ?_
  refine A_blk hM.1 2 (lv1 := [some (aR 3)]) (s1 := [aI 320, aR 3]) (h1 := hz0) rfl ?_
  refine A_newi hM.1 rfl rfl (L := 320) rfl rfl (by decide) (fun j => rfl) rfl (by decide) (rm_le hrm rfl rfl) ?_
  refine A_putr hM.1 rfl rfl rfl rfl (by decide) rfl (Or.inr ⟨rfl, hnm⟩) (by decide) rfl ?_
  exact A_retv hM.1 rfl rfl rfl ⟨rfl, rfl, rfl⟩
set_option maxRecDepth 20000 in
set_option maxHeartbeats 4000000 in
theorem ci_5 {G : Gx} : CT G yX10_init M_X10_init 2 7 446 (20, rfS 17) hz0 [aR 19] (fun r F' h' => F' = (27, rfS 24) ∧ r = none ∧ h' = hz0) := by
  refine CT.of (by decide +kernel) rfl (Nat.le_of_ble_eq_true rfl) k_X10_init fun k0 hrm0 hnm0 hM => ?_
  have hrm := KM_room k0 7 446 (fun r F' h' => F' = (27, rfS 24) ∧ r = none ∧ h' = hz0) hrm0
  have hnm := KM_name k0 7 446 (fun r F' h' => F' = (27, rfS 24) ∧ r = none ∧ h' = hz0) hnm0
  refine A_blk hM.1 1 (lv1 := [some (aR 19)]) (s1 := [aR 19]) (h1 := hz0) rfl ?_
  refine A_obj hM (by decide) rfl rfl (mem_GW 239 (by decide +kernel) rfl) (by decide) (Nat.le_of_ble_eq_true rfl) ?_
  refine A_blk hM.1 2 (lv1 := [some (aR 19)]) (s1 := [aI 12, aR 19]) (h1 := hz0) rfl ?_
  refine A_newi hM.1 rfl rfl (L := 12) rfl rfl (by decide) (fun j => rfl) rfl (by decide) (rm_le hrm rfl rfl) ?_
  refine A_putr hM.1 rfl rfl rfl rfl (by decide) rfl (Or.inr ⟨rfl, hnm⟩) (by decide) rfl ?_
  refine A_blk hM.1 2 (lv1 := [some (aR 19)]) (s1 := [aI 12, aR 19]) (h1 := hz0) rfl ?_
  refine A_newi hM.1 rfl rfl (L := 12) rfl rfl (by decide) (fun j => rfl) rfl (by decide) (rm_le hrm rfl rfl) ?_
  refine A_putr hM.1 rfl rfl rfl rfl (by decide) rfl (Or.inr ⟨rfl, hnm⟩) (by decide) rfl ?_
  refine A_blk hM.1 2 (lv1 := [some (aR 19)]) (s1 := [aI 12, aR 19]) (h1 := hz0) rfl ?_
  refine A_newi hM.1 rfl rfl (L := 12) rfl rfl (by decide) (fun j => rfl) rfl (by decide) (rm_le hrm rfl rfl) ?_
  refine A_putr hM.1 rfl rfl rfl rfl (by decide) rfl (Or.inr ⟨rfl, hnm⟩) (by decide) rfl ?_
  refine A_blk hM.1 2 (lv1 := [some (aR 19)]) (s1 := [aI 160, aR 19]) (h1 := hz0) rfl ?_
  refine A_newi hM.1 rfl rfl (L := 160) rfl rfl (by decide) (fun j => rfl) rfl (by decide) (rm_le hrm rfl rfl) ?_
  refine A_putr hM.1 rfl rfl rfl rfl (by decide) rfl (Or.inr ⟨rfl, hnm⟩) (by decide) rfl ?_
  refine A_blk hM.1 2 (lv1 := [some (aR 19)]) (s1 := [aI 160, aR 19]) (h1 := hz0) rfl ?_
  refine A_newi hM.1 rfl rfl (L := 160) rfl rfl (by decide) (fun j => rfl) rfl (by decide) (rm_le hrm rfl rfl) ?_
  refine A_putr hM.1 rfl rfl rfl rfl (by decide) rfl (Or.inr ⟨rfl, hnm⟩) (by decide) rfl ?_
  refine A_blk hM.1 2 (lv1 := [some (aR 19)]) (s1 := [aI 26, aR 19]) (h1 := hz0) rfl ?_
  refine A_newi hM.1 rfl rfl (L := 26) rfl rfl (by decide) (fun j => rfl) rfl (by decide) (rm_le hrm rfl rfl) ?_
  refine A_putr hM.1 rfl rfl rfl rfl (by decide) rfl (Or.inr ⟨rfl, hnm⟩) (by decide) rfl ?_
  refine A_blk hM.1 2 (lv1 := [some (aR 19)]) (s1 := [aI 64, aR 19]) (h1 := hz0) rfl ?_
  refine A_newi hM.1 rfl rfl (L := 64) rfl rfl (by decide) (fun j => rfl) rfl (by decide) (rm_le hrm rfl rfl) ?_
  refine A_putr hM.1 rfl rfl rfl rfl (by decide) rfl (Or.inr ⟨rfl, hnm⟩) (by decide) rfl ?_
  exact A_retv hM.1 rfl rfl rfl ⟨rfl, rfl, rfl⟩
set_option maxRecDepth 20000 in
set_option maxHeartbeats 4000000 in
theorem ci_4 {G : Gx} : CT G yX6_init M_X6_init 3 8 457 (19, rfS 17) hz0 [aR 18, aR 1] (fun r F' h' => F' = (27, rfS 26) ∧ r = none ∧ h' = hz0) := by
  refine CT.of (by decide +kernel) rfl (Nat.le_of_ble_eq_true rfl) k_X6_init fun k0 hrm0 hnm0 hM => ?_
  have hrm := KM_room k0 8 457 (fun r F' h' => F' = (27, rfS 26) ∧ r = none ∧ h' = hz0) hrm0
  have hnm := KM_name k0 8 457 (fun r F' h' => F' = (27, rfS 26) ∧ r = none ∧ h' = hz0) hnm0
  refine A_blk hM.1 1 (lv1 := [some (aR 18), some (aR 1)]) (s1 := [aR 18]) (h1 := hz0) rfl ?_
  refine A_obj hM (by decide) rfl rfl (mem_GW 233 (by decide +kernel) rfl) (by decide) (Nat.le_of_ble_eq_true rfl) ?_
  refine A_blk hM.1 1 (lv1 := [some (aR 18), some (aR 1)]) (s1 := [aR 18]) (h1 := hz0) rfl ?_
  refine A_newo hM.1 rfl rfl (ci := 10) (mem_GW 234 (by decide +kernel) rfl) (mem_GW 235 (by decide +kernel) rfl) (mem_GW 127 (by decide +kernel) rfl) rfl (by decide) (by decide) (fun j => rfS_none (by decide +kernel) j) (fun j => rfl) (rm_le hrm rfl rfl) ?_
  refine A_blk hM.1 1 (lv1 := [some (aR 18), some (aR 1)]) (s1 := [aR 19, aR 19, aR 18]) (h1 := hz0) rfl ?_
  refine A_callIN (host := "QuotedBooks") hM rfl rfl (mem_NW 236 (by decide +kernel) rfl) rfl mi_X10_init in_X10_init rfl (As := []) (rest := [aR 19, aR 18]) ci_5 (by decide) (rm_le hrm rfl rfl) rfl rfl (Nat.le_of_ble_eq_true rfl) (by decide) (fun r F' h' hq1 => ?_)
  obtain ⟨rfl, rfl, rfl⟩ := hq1
  refine A_putr hM.1 rfl rfl rfl rfl (by decide) rfl (Or.inr ⟨rfl, hnm⟩) (by decide) rfl ?_
  refine A_blk hM.1 2 (lv1 := [some (aR 18), some (aR 1)]) (s1 := [aR 1, aR 18]) (h1 := hz0) rfl ?_
  refine A_putr hM.1 rfl rfl rfl rfl (by decide) rfl (Or.inr ⟨rfl, hnm⟩) (by decide) rfl ?_
  exact A_retv hM.1 rfl rfl rfl ⟨rfl, rfl, rfl⟩
set_option maxRecDepth 20000 in
set_option maxHeartbeats 4000000 in
theorem ci_6 {G : Gx} : CT G yX10_init M_X10_init 2 7 446 (29, rfS 28) hz0 [aR 28] (fun r F' h' => F' = (36, rfS 35) ∧ r = none ∧ h' = hz0) := by
  refine CT.of (by decide +kernel) rfl (Nat.le_of_ble_eq_true rfl) k_X10_init fun k0 hrm0 hnm0 hM => ?_
  have hrm := KM_room k0 7 446 (fun r F' h' => F' = (36, rfS 35) ∧ r = none ∧ h' = hz0) hrm0
  have hnm := KM_name k0 7 446 (fun r F' h' => F' = (36, rfS 35) ∧ r = none ∧ h' = hz0) hnm0
  refine A_blk hM.1 1 (lv1 := [some (aR 28)]) (s1 := [aR 28]) (h1 := hz0) rfl ?_
  refine A_obj hM (by decide) rfl rfl (mem_GW 239 (by decide +kernel) rfl) (by decide) (Nat.le_of_ble_eq_true rfl) ?_
  refine A_blk hM.1 2 (lv1 := [some (aR 28)]) (s1 := [aI 12, aR 28]) (h1 := hz0) rfl ?_
  refine A_newi hM.1 rfl rfl (L := 12) rfl rfl (by decide) (fun j => rfl) rfl (by decide) (rm_le hrm rfl rfl) ?_
  refine A_putr hM.1 rfl rfl rfl rfl (by decide) rfl (Or.inr ⟨rfl, hnm⟩) (by decide) rfl ?_
  refine A_blk hM.1 2 (lv1 := [some (aR 28)]) (s1 := [aI 12, aR 28]) (h1 := hz0) rfl ?_
  refine A_newi hM.1 rfl rfl (L := 12) rfl rfl (by decide) (fun j => rfl) rfl (by decide) (rm_le hrm rfl rfl) ?_
  refine A_putr hM.1 rfl rfl rfl rfl (by decide) rfl (Or.inr ⟨rfl, hnm⟩) (by decide) rfl ?_
  refine A_blk hM.1 2 (lv1 := [some (aR 28)]) (s1 := [aI 12, aR 28]) (h1 := hz0) rfl ?_
  refine A_newi hM.1 rfl rfl (L := 12) rfl rfl (by decide) (fun j => rfl) rfl (by decide) (rm_le hrm rfl rfl) ?_
  refine A_putr hM.1 rfl rfl rfl rfl (by decide) rfl (Or.inr ⟨rfl, hnm⟩) (by decide) rfl ?_
  refine A_blk hM.1 2 (lv1 := [some (aR 28)]) (s1 := [aI 160, aR 28]) (h1 := hz0) rfl ?_
  refine A_newi hM.1 rfl rfl (L := 160) rfl rfl (by decide) (fun j => rfl) rfl (by decide) (rm_le hrm rfl rfl) ?_
  refine A_putr hM.1 rfl rfl rfl rfl (by decide) rfl (Or.inr ⟨rfl, hnm⟩) (by decide) rfl ?_
  refine A_blk hM.1 2 (lv1 := [some (aR 28)]) (s1 := [aI 160, aR 28]) (h1 := hz0) rfl ?_
  refine A_newi hM.1 rfl rfl (L := 160) rfl rfl (by decide) (fun j => rfl) rfl (by decide) (rm_le hrm rfl rfl) ?_
  refine A_putr hM.1 rfl rfl rfl rfl (by decide) rfl (Or.inr ⟨rfl, hnm⟩) (by decide) rfl ?_
  refine A_blk hM.1 2 (lv1 := [some (aR 28)]) (s1 := [aI 26, aR 28]) (h1 := hz0) rfl ?_
  refine A_newi hM.1 rfl rfl (L := 26) rfl rfl (by decide) (fun j => rfl) rfl (by decide) (rm_le hrm rfl rfl) ?_
  refine A_putr hM.1 rfl rfl rfl rfl (by decide) rfl (Or.inr ⟨rfl, hnm⟩) (by decide) rfl ?_
  refine A_blk hM.1 2 (lv1 := [some (aR 28)]) (s1 := [aI 64, aR 28]) (h1 := hz0) rfl ?_
  refine A_newi hM.1 rfl rfl (L := 64) rfl rfl (by decide) (fun j => rfl) rfl (by decide) (rm_le hrm rfl rfl) ?_
  refine A_putr hM.1 rfl rfl rfl rfl (by decide) rfl (Or.inr ⟨rfl, hnm⟩) (by decide) rfl ?_
  exact A_retv hM.1 rfl rfl rfl ⟨rfl, rfl, rfl⟩
set_option maxRecDepth 20000 in
set_option maxHeartbeats 4000000 in
theorem ci_7 {G : Gx} : CT G yX10_init M_X10_init 2 7 446 (37, rfS 36) hz0 [aR 36] (fun r F' h' => F' = (44, rfS 43) ∧ r = none ∧ h' = hz0) := by
  refine CT.of (by decide +kernel) rfl (Nat.le_of_ble_eq_true rfl) k_X10_init fun k0 hrm0 hnm0 hM => ?_
  have hrm := KM_room k0 7 446 (fun r F' h' => F' = (44, rfS 43) ∧ r = none ∧ h' = hz0) hrm0
  have hnm := KM_name k0 7 446 (fun r F' h' => F' = (44, rfS 43) ∧ r = none ∧ h' = hz0) hnm0
  refine A_blk hM.1 1 (lv1 := [some (aR 36)]) (s1 := [aR 36]) (h1 := hz0) rfl ?_
  refine A_obj hM (by decide) rfl rfl (mem_GW 239 (by decide +kernel) rfl) (by decide) (Nat.le_of_ble_eq_true rfl) ?_
  refine A_blk hM.1 2 (lv1 := [some (aR 36)]) (s1 := [aI 12, aR 36]) (h1 := hz0) rfl ?_
  refine A_newi hM.1 rfl rfl (L := 12) rfl rfl (by decide) (fun j => rfl) rfl (by decide) (rm_le hrm rfl rfl) ?_
  refine A_putr hM.1 rfl rfl rfl rfl (by decide) rfl (Or.inr ⟨rfl, hnm⟩) (by decide) rfl ?_
  refine A_blk hM.1 2 (lv1 := [some (aR 36)]) (s1 := [aI 12, aR 36]) (h1 := hz0) rfl ?_
  refine A_newi hM.1 rfl rfl (L := 12) rfl rfl (by decide) (fun j => rfl) rfl (by decide) (rm_le hrm rfl rfl) ?_
  refine A_putr hM.1 rfl rfl rfl rfl (by decide) rfl (Or.inr ⟨rfl, hnm⟩) (by decide) rfl ?_
  refine A_blk hM.1 2 (lv1 := [some (aR 36)]) (s1 := [aI 12, aR 36]) (h1 := hz0) rfl ?_
  refine A_newi hM.1 rfl rfl (L := 12) rfl rfl (by decide) (fun j => rfl) rfl (by decide) (rm_le hrm rfl rfl) ?_
  refine A_putr hM.1 rfl rfl rfl rfl (by decide) rfl (Or.inr ⟨rfl, hnm⟩) (by decide) rfl ?_
  refine A_blk hM.1 2 (lv1 := [some (aR 36)]) (s1 := [aI 160, aR 36]) (h1 := hz0) rfl ?_
  refine A_newi hM.1 rfl rfl (L := 160) rfl rfl (by decide) (fun j => rfl) rfl (by decide) (rm_le hrm rfl rfl) ?_
  refine A_putr hM.1 rfl rfl rfl rfl (by decide) rfl (Or.inr ⟨rfl, hnm⟩) (by decide) rfl ?_
  refine A_blk hM.1 2 (lv1 := [some (aR 36)]) (s1 := [aI 160, aR 36]) (h1 := hz0) rfl ?_
  refine A_newi hM.1 rfl rfl (L := 160) rfl rfl (by decide) (fun j => rfl) rfl (by decide) (rm_le hrm rfl rfl) ?_
  refine A_putr hM.1 rfl rfl rfl rfl (by decide) rfl (Or.inr ⟨rfl, hnm⟩) (by decide) rfl ?_
  refine A_blk hM.1 2 (lv1 := [some (aR 36)]) (s1 := [aI 26, aR 36]) (h1 := hz0) rfl ?_
  refine A_newi hM.1 rfl rfl (L := 26) rfl rfl (by decide) (fun j => rfl) rfl (by decide) (rm_le hrm rfl rfl) ?_
  refine A_putr hM.1 rfl rfl rfl rfl (by decide) rfl (Or.inr ⟨rfl, hnm⟩) (by decide) rfl ?_
  refine A_blk hM.1 2 (lv1 := [some (aR 36)]) (s1 := [aI 64, aR 36]) (h1 := hz0) rfl ?_
  refine A_newi hM.1 rfl rfl (L := 64) rfl rfl (by decide) (fun j => rfl) rfl (by decide) (rm_le hrm rfl rfl) ?_
  refine A_putr hM.1 rfl rfl rfl rfl (by decide) rfl (Or.inr ⟨rfl, hnm⟩) (by decide) rfl ?_
  exact A_retv hM.1 rfl rfl rfl ⟨rfl, rfl, rfl⟩
set_option maxRecDepth 20000 in
set_option maxHeartbeats 4000000 in
theorem ci_8 {G : Gx} : CT G yX10_init M_X10_init 2 7 446 (45, rfS 44) hz0 [aR 44] (fun r F' h' => F' = (52, rfS 51) ∧ r = none ∧ h' = hz0) := by
  refine CT.of (by decide +kernel) rfl (Nat.le_of_ble_eq_true rfl) k_X10_init fun k0 hrm0 hnm0 hM => ?_
  have hrm := KM_room k0 7 446 (fun r F' h' => F' = (52, rfS 51) ∧ r = none ∧ h' = hz0) hrm0
  have hnm := KM_name k0 7 446 (fun r F' h' => F' = (52, rfS 51) ∧ r = none ∧ h' = hz0) hnm0
  refine A_blk hM.1 1 (lv1 := [some (aR 44)]) (s1 := [aR 44]) (h1 := hz0) rfl ?_
  refine A_obj hM (by decide) rfl rfl (mem_GW 239 (by decide +kernel) rfl) (by decide) (Nat.le_of_ble_eq_true rfl) ?_
  refine A_blk hM.1 2 (lv1 := [some (aR 44)]) (s1 := [aI 12, aR 44]) (h1 := hz0) rfl ?_
  refine A_newi hM.1 rfl rfl (L := 12) rfl rfl (by decide) (fun j => rfl) rfl (by decide) (rm_le hrm rfl rfl) ?_
  refine A_putr hM.1 rfl rfl rfl rfl (by decide) rfl (Or.inr ⟨rfl, hnm⟩) (by decide) rfl ?_
  refine A_blk hM.1 2 (lv1 := [some (aR 44)]) (s1 := [aI 12, aR 44]) (h1 := hz0) rfl ?_
  refine A_newi hM.1 rfl rfl (L := 12) rfl rfl (by decide) (fun j => rfl) rfl (by decide) (rm_le hrm rfl rfl) ?_
  refine A_putr hM.1 rfl rfl rfl rfl (by decide) rfl (Or.inr ⟨rfl, hnm⟩) (by decide) rfl ?_
  refine A_blk hM.1 2 (lv1 := [some (aR 44)]) (s1 := [aI 12, aR 44]) (h1 := hz0) rfl ?_
  refine A_newi hM.1 rfl rfl (L := 12) rfl rfl (by decide) (fun j => rfl) rfl (by decide) (rm_le hrm rfl rfl) ?_
  refine A_putr hM.1 rfl rfl rfl rfl (by decide) rfl (Or.inr ⟨rfl, hnm⟩) (by decide) rfl ?_
  refine A_blk hM.1 2 (lv1 := [some (aR 44)]) (s1 := [aI 160, aR 44]) (h1 := hz0) rfl ?_
  refine A_newi hM.1 rfl rfl (L := 160) rfl rfl (by decide) (fun j => rfl) rfl (by decide) (rm_le hrm rfl rfl) ?_
  refine A_putr hM.1 rfl rfl rfl rfl (by decide) rfl (Or.inr ⟨rfl, hnm⟩) (by decide) rfl ?_
  refine A_blk hM.1 2 (lv1 := [some (aR 44)]) (s1 := [aI 160, aR 44]) (h1 := hz0) rfl ?_
  refine A_newi hM.1 rfl rfl (L := 160) rfl rfl (by decide) (fun j => rfl) rfl (by decide) (rm_le hrm rfl rfl) ?_
  refine A_putr hM.1 rfl rfl rfl rfl (by decide) rfl (Or.inr ⟨rfl, hnm⟩) (by decide) rfl ?_
  refine A_blk hM.1 2 (lv1 := [some (aR 44)]) (s1 := [aI 26, aR 44]) (h1 := hz0) rfl ?_
  refine A_newi hM.1 rfl rfl (L := 26) rfl rfl (by decide) (fun j => rfl) rfl (by decide) (rm_le hrm rfl rfl) ?_
  refine A_putr hM.1 rfl rfl rfl rfl (by decide) rfl (Or.inr ⟨rfl, hnm⟩) (by decide) rfl ?_
  refine A_blk hM.1 2 (lv1 := [some (aR 44)]) (s1 := [aI 64, aR 44]) (h1 := hz0) rfl ?_
  refine A_newi hM.1 rfl rfl (L := 64) rfl rfl (by decide) (fun j => rfl) rfl (by decide) (rm_le hrm rfl rfl) ?_
  refine A_putr hM.1 rfl rfl rfl rfl (by decide) rfl (Or.inr ⟨rfl, hnm⟩) (by decide) rfl ?_
  exact A_retv hM.1 rfl rfl rfl ⟨rfl, rfl, rfl⟩
set_option maxRecDepth 20000 in
set_option maxHeartbeats 4000000 in
theorem ci_9 {G : Gx} : CT G yX4_init M_X4_init 2 0 0 (53, rfS 52) hz0 [aR 52] (fun r F' h' => F' = (53, rfS 52) ∧ r = none ∧ h' = setH hz0 52 1 1) := by
  refine CT.of (by decide +kernel) rfl (Nat.le_of_ble_eq_true rfl) k_X4_init fun k0 hrm0 hnm0 hM => ?_
  have hrm := KM_room k0 0 0 (fun r F' h' => F' = (53, rfS 52) ∧ r = none ∧ h' = setH hz0 52 1 1) hrm0
  have hnm := KM_name k0 0 0 (fun r F' h' => F' = (53, rfS 52) ∧ r = none ∧ h' = setH hz0 52 1 1) hnm0
  refine A_blk hM.1 1 (lv1 := [some (aR 52)]) (s1 := [aR 52]) (h1 := hz0) rfl ?_
  refine A_obj hM (by decide) rfl rfl (mem_GW 298 (by decide +kernel) rfl) (by decide) (Nat.le_of_ble_eq_true rfl) ?_
  refine A_blk hM.1 3 (lv1 := [some (aR 52)]) (s1 := []) (h1 := setH hz0 52 1 1) rfl ?_
  exact A_retv hM.1 rfl rfl rfl ⟨rfl, rfl, rfl⟩
set_option maxRecDepth 20000 in
set_option maxHeartbeats 4000000 in
theorem ci_10 {G : Gx} : CT G yX1_init M_X1_init 2 7 1378 (54, rfS 53) (setH hz0 52 1 1) [aR 53, aR 3] (fun r F' h' => F' = (61, rfS 61) ∧ r = none ∧ h' = setH hz0 52 1 1) := by
  refine CT.of (by decide +kernel) rfl (Nat.le_of_ble_eq_true rfl) k_X1_init fun k0 hrm0 hnm0 hM => ?_
  have hrm := KM_room k0 7 1378 (fun r F' h' => F' = (61, rfS 61) ∧ r = none ∧ h' = setH hz0 52 1 1) hrm0
  have hnm := KM_name k0 7 1378 (fun r F' h' => F' = (61, rfS 61) ∧ r = none ∧ h' = setH hz0 52 1 1) hnm0
  refine A_blk hM.1 1 (lv1 := [some (aR 53), some (aR 3)]) (s1 := [aR 53]) (h1 := setH hz0 52 1 1) rfl ?_
  refine A_obj hM (by decide) rfl rfl (mem_GW 311 (by decide +kernel) rfl) (by decide) (Nat.le_of_ble_eq_true rfl) ?_
  refine A_blk hM.1 2 (lv1 := [some (aR 53), some (aR 3)]) (s1 := [aI 9, aR 53]) (h1 := setH hz0 52 1 1) rfl ?_
  refine A_newi hM.1 rfl rfl (L := 9) rfl rfl (by decide) (fun j => rfl) rfl (by decide) (rm_le hrm rfl rfl) ?_
  refine A_putr hM.1 rfl rfl rfl rfl (by decide) rfl (Or.inr ⟨rfl, hnm⟩) (by decide) rfl ?_
  refine A_blk hM.1 2 (lv1 := [some (aR 53), some (aR 3)]) (s1 := [aI 320, aR 53]) (h1 := setH hz0 52 1 1) rfl ?_
  refine A_newz hM.1 rfl rfl (L := 320) rfl rfl (by decide) (fun j => rfl) rfl (by decide) (rm_le hrm rfl rfl) ?_
  refine A_putr hM.1 rfl rfl rfl rfl (by decide) rfl (Or.inr ⟨rfl, hnm⟩) (by decide) rfl ?_
  refine A_blk hM.1 2 (lv1 := [some (aR 53), some (aR 3)]) (s1 := [aI 320, aR 53]) (h1 := setH hz0 52 1 1) rfl ?_
  refine A_newi hM.1 rfl rfl (L := 320) rfl rfl (by decide) (fun j => rfl) rfl (by decide) (rm_le hrm rfl rfl) ?_
  refine A_putr hM.1 rfl rfl rfl rfl (by decide) rfl (Or.inr ⟨rfl, hnm⟩) (by decide) rfl ?_
  refine A_blk hM.1 2 (lv1 := [some (aR 53), some (aR 3)]) (s1 := [aI 320, aR 53]) (h1 := setH hz0 52 1 1) rfl ?_
  refine A_newi hM.1 rfl rfl (L := 320) rfl rfl (by decide) (fun j => rfl) rfl (by decide) (rm_le hrm rfl rfl) ?_
  refine A_putr hM.1 rfl rfl rfl rfl (by decide) rfl (Or.inr ⟨rfl, hnm⟩) (by decide) rfl ?_
  refine A_blk hM.1 2 (lv1 := [some (aR 53), some (aR 3)]) (s1 := [aI 320, aR 53]) (h1 := setH hz0 52 1 1) rfl ?_
  refine A_newi hM.1 rfl rfl (L := 320) rfl rfl (by decide) (fun j => rfl) rfl (by decide) (rm_le hrm rfl rfl) ?_
  refine A_putr hM.1 rfl rfl rfl rfl (by decide) rfl (Or.inr ⟨rfl, hnm⟩) (by decide) rfl ?_
  refine A_blk hM.1 2 (lv1 := [some (aR 53), some (aR 3)]) (s1 := [aI 81, aR 53]) (h1 := setH hz0 52 1 1) rfl ?_
  refine A_newi hM.1 rfl rfl (L := 81) rfl rfl (by decide) (fun j => rfl) rfl (by decide) (rm_le hrm rfl rfl) ?_
  refine A_putr hM.1 rfl rfl rfl rfl (by decide) rfl (Or.inr ⟨rfl, hnm⟩) (by decide) rfl ?_
  refine A_blk hM.1 2 (lv1 := [some (aR 53), some (aR 3)]) (s1 := [aI 8, aR 53]) (h1 := setH hz0 52 1 1) rfl ?_
  refine A_newi hM.1 rfl rfl (L := 8) rfl rfl (by decide) (fun j => rfl) rfl (by decide) (rm_le hrm rfl rfl) ?_
  refine A_putr hM.1 rfl rfl rfl rfl (by decide) rfl (Or.inr ⟨rfl, hnm⟩) (by decide) rfl ?_
  refine A_blk hM.1 2 (lv1 := [some (aR 53), some (aR 3)]) (s1 := [aR 3, aR 53]) (h1 := setH hz0 52 1 1) rfl ?_
  refine A_putr hM.1 rfl rfl rfl rfl (by decide) rfl (Or.inr ⟨rfl, hnm⟩) (by decide) rfl ?_
  exact A_retv hM.1 rfl rfl rfl ⟨rfl, rfl, rfl⟩
set_option maxRecDepth 20000 in
set_option maxHeartbeats 4000000 in
theorem ci_12 {G : Gx} : CT G yX8_init M_X8_init 2 1 40 (63, rfS 64) (setH hz0 52 1 1) [aR 62, aR 3, aR 53] (fun r F' h' => F' = (64, rfS 67) ∧ r = none ∧ h' = setH hz0 52 1 1) := by
  refine CT.of (by decide +kernel) rfl (Nat.le_of_ble_eq_true rfl) k_X8_init fun k0 hrm0 hnm0 hM => ?_
  have hrm := KM_room k0 1 40 (fun r F' h' => F' = (64, rfS 67) ∧ r = none ∧ h' = setH hz0 52 1 1) hrm0
  have hnm := KM_name k0 1 40 (fun r F' h' => F' = (64, rfS 67) ∧ r = none ∧ h' = setH hz0 52 1 1) hnm0
  refine A_blk hM.1 1 (lv1 := [some (aR 62), some (aR 3), some (aR 53)]) (s1 := [aR 62]) (h1 := setH hz0 52 1 1) rfl ?_
  refine A_obj hM (by decide) rfl rfl (mem_GW 349 (by decide +kernel) rfl) (by decide) (Nat.le_of_ble_eq_true rfl) ?_
  refine A_blk hM.1 2 (lv1 := [some (aR 62), some (aR 3), some (aR 53)]) (s1 := [aI 40, aR 62]) (h1 := setH hz0 52 1 1) rfl ?_
  refine A_newi hM.1 rfl rfl (L := 40) rfl rfl (by decide) (fun j => rfl) rfl (by decide) (rm_le hrm rfl rfl) ?_
  refine A_putr hM.1 rfl rfl rfl rfl (by decide) rfl (Or.inr ⟨rfl, hnm⟩) (by decide) rfl ?_
  refine A_blk hM.1 2 (lv1 := [some (aR 62), some (aR 3), some (aR 53)]) (s1 := [aR 3, aR 62]) (h1 := setH hz0 52 1 1) rfl ?_
  refine A_putr hM.1 rfl rfl rfl rfl (by decide) rfl (Or.inr ⟨rfl, hnm⟩) (by decide) rfl ?_
  refine A_blk hM.1 2 (lv1 := [some (aR 62), some (aR 3), some (aR 53)]) (s1 := [aR 53, aR 62]) (h1 := setH hz0 52 1 1) rfl ?_
  refine A_putr hM.1 rfl rfl rfl rfl (by decide) rfl (Or.inr ⟨rfl, hnm⟩) (by decide) rfl ?_
  exact A_retv hM.1 rfl rfl rfl ⟨rfl, rfl, rfl⟩
set_option maxRecDepth 20000 in
set_option maxHeartbeats 4000000 in
theorem ci_13 {G : Gx} : CT G yX8_init M_X8_init 2 1 40 (65, rfS 68) (setH hz0 52 1 1) [aR 64, aR 3, aR 53] (fun r F' h' => F' = (66, rfS 71) ∧ r = none ∧ h' = setH hz0 52 1 1) := by
  refine CT.of (by decide +kernel) rfl (Nat.le_of_ble_eq_true rfl) k_X8_init fun k0 hrm0 hnm0 hM => ?_
  have hrm := KM_room k0 1 40 (fun r F' h' => F' = (66, rfS 71) ∧ r = none ∧ h' = setH hz0 52 1 1) hrm0
  have hnm := KM_name k0 1 40 (fun r F' h' => F' = (66, rfS 71) ∧ r = none ∧ h' = setH hz0 52 1 1) hnm0
  refine A_blk hM.1 1 (lv1 := [some (aR 64), some (aR 3), some (aR 53)]) (s1 := [aR 64]) (h1 := setH hz0 52 1 1) rfl ?_
  refine A_obj hM (by decide) rfl rfl (mem_GW 349 (by decide +kernel) rfl) (by decide) (Nat.le_of_ble_eq_true rfl) ?_
  refine A_blk hM.1 2 (lv1 := [some (aR 64), some (aR 3), some (aR 53)]) (s1 := [aI 40, aR 64]) (h1 := setH hz0 52 1 1) rfl ?_
  refine A_newi hM.1 rfl rfl (L := 40) rfl rfl (by decide) (fun j => rfl) rfl (by decide) (rm_le hrm rfl rfl) ?_
  refine A_putr hM.1 rfl rfl rfl rfl (by decide) rfl (Or.inr ⟨rfl, hnm⟩) (by decide) rfl ?_
  refine A_blk hM.1 2 (lv1 := [some (aR 64), some (aR 3), some (aR 53)]) (s1 := [aR 3, aR 64]) (h1 := setH hz0 52 1 1) rfl ?_
  refine A_putr hM.1 rfl rfl rfl rfl (by decide) rfl (Or.inr ⟨rfl, hnm⟩) (by decide) rfl ?_
  refine A_blk hM.1 2 (lv1 := [some (aR 64), some (aR 3), some (aR 53)]) (s1 := [aR 53, aR 64]) (h1 := setH hz0 52 1 1) rfl ?_
  refine A_putr hM.1 rfl rfl rfl rfl (by decide) rfl (Or.inr ⟨rfl, hnm⟩) (by decide) rfl ?_
  exact A_retv hM.1 rfl rfl rfl ⟨rfl, rfl, rfl⟩
set_option maxRecDepth 20000 in
set_option maxHeartbeats 4000000 in
theorem ci_11 {G : Gx} : CT G yX2_init M_X2_init 3 4 90 (62, rfS 62) (setH hz0 52 1 1) [aR 61, aR 3, aR 53, aR 52] (fun r F' h' => F' = (66, rfS 72) ∧ r = none ∧ h' = setH hz0 52 1 1) := by
  refine CT.of (by decide +kernel) rfl (Nat.le_of_ble_eq_true rfl) k_X2_init fun k0 hrm0 hnm0 hM => ?_
  have hrm := KM_room k0 4 90 (fun r F' h' => F' = (66, rfS 72) ∧ r = none ∧ h' = setH hz0 52 1 1) hrm0
  have hnm := KM_name k0 4 90 (fun r F' h' => F' = (66, rfS 72) ∧ r = none ∧ h' = setH hz0 52 1 1) hnm0
  refine A_blk hM.1 1 (lv1 := [some (aR 61), some (aR 3), some (aR 53), some (aR 52)]) (s1 := [aR 61]) (h1 := setH hz0 52 1 1) rfl ?_
  refine A_obj hM (by decide) rfl rfl (mem_GW 343 (by decide +kernel) rfl) (by decide) (Nat.le_of_ble_eq_true rfl) ?_
  refine A_blk hM.1 2 (lv1 := [some (aR 61), some (aR 3), some (aR 53), some (aR 52)]) (s1 := [aR 3, aR 61]) (h1 := setH hz0 52 1 1) rfl ?_
  refine A_putr hM.1 rfl rfl rfl rfl (by decide) rfl (Or.inr ⟨rfl, hnm⟩) (by decide) rfl ?_
  refine A_blk hM.1 2 (lv1 := [some (aR 61), some (aR 3), some (aR 53), some (aR 52)]) (s1 := [aR 52, aR 61]) (h1 := setH hz0 52 1 1) rfl ?_
  refine A_putr hM.1 rfl rfl rfl rfl (by decide) rfl (Or.inr ⟨rfl, hnm⟩) (by decide) rfl ?_
  refine A_blk hM.1 1 (lv1 := [some (aR 61), some (aR 3), some (aR 53), some (aR 52)]) (s1 := [aR 61]) (h1 := setH hz0 52 1 1) rfl ?_
  refine A_newo hM.1 rfl rfl (ci := 8) (mem_GW 344 (by decide +kernel) rfl) (mem_GW 345 (by decide +kernel) rfl) (mem_GW 131 (by decide +kernel) rfl) rfl (by decide) (by decide) (fun j => rfS_none (by decide +kernel) j) (fun j => rfl) (rm_le hrm rfl rfl) ?_
  refine A_blk hM.1 3 (lv1 := [some (aR 61), some (aR 3), some (aR 53), some (aR 52)]) (s1 := [aR 53, aR 3, aR 62, aR 62, aR 61]) (h1 := setH hz0 52 1 1) rfl ?_
  refine A_callI hM rfl rfl (mem_GW 346 (by decide +kernel) rfl) rfl mi_X8_init in_X8_init rfl (As := [aR 3, aR 53]) (rest := [aR 62, aR 61]) ci_12 (by decide) (rm_le hrm rfl rfl) rfl rfl (Nat.le_of_ble_eq_true rfl) (by decide) (fun r F' h' hq1 => ?_)
  obtain ⟨rfl, rfl, rfl⟩ := hq1
  refine A_putr hM.1 rfl rfl rfl rfl (by decide) rfl (Or.inr ⟨rfl, hnm⟩) (by decide) rfl ?_
  refine A_blk hM.1 1 (lv1 := [some (aR 61), some (aR 3), some (aR 53), some (aR 52)]) (s1 := [aR 61]) (h1 := setH hz0 52 1 1) rfl ?_
  refine A_newo hM.1 rfl rfl (ci := 8) (mem_GW 344 (by decide +kernel) rfl) (mem_GW 345 (by decide +kernel) rfl) (mem_GW 131 (by decide +kernel) rfl) rfl (by decide) (by decide) (fun j => rfS_none (by decide +kernel) j) (fun j => rfl) (rm_le hrm rfl rfl) ?_
  refine A_blk hM.1 3 (lv1 := [some (aR 61), some (aR 3), some (aR 53), some (aR 52)]) (s1 := [aR 53, aR 3, aR 64, aR 64, aR 61]) (h1 := setH hz0 52 1 1) rfl ?_
  refine A_callI hM rfl rfl (mem_GW 346 (by decide +kernel) rfl) rfl mi_X8_init in_X8_init rfl (As := [aR 3, aR 53]) (rest := [aR 64, aR 61]) ci_13 (by decide) (rm_le hrm rfl rfl) rfl rfl (Nat.le_of_ble_eq_true rfl) (by decide) (fun r F' h' hq1 => ?_)
  obtain ⟨rfl, rfl, rfl⟩ := hq1
  refine A_putr hM.1 rfl rfl rfl rfl (by decide) rfl (Or.inr ⟨rfl, hnm⟩) (by decide) rfl ?_
  exact A_retv hM.1 rfl rfl rfl ⟨rfl, rfl, rfl⟩
set_option maxRecDepth 20000 in
set_option maxHeartbeats 4000000 in
theorem ci_14 {G : Gx} : CT G yX5_init M_X5_init 2 10 21764 (67, rfS 73) (setH hz0 52 1 1) [aR 66, aR 3, aR 28] (fun r F' h' => F' = (77, rfS 85) ∧ r = none ∧ h' = setH (setH hz0 52 1 1) 66 16 (-1)) := by
  refine CT.of (by decide +kernel) rfl (Nat.le_of_ble_eq_true rfl) k_X5_init fun k0 hrm0 hnm0 hM => ?_
  have hrm := KM_room k0 10 21764 (fun r F' h' => F' = (77, rfS 85) ∧ r = none ∧ h' = setH (setH hz0 52 1 1) 66 16 (-1)) hrm0
  have hnm := KM_name k0 10 21764 (fun r F' h' => F' = (77, rfS 85) ∧ r = none ∧ h' = setH (setH hz0 52 1 1) 66 16 (-1)) hnm0
  refine A_blk hM.1 1 (lv1 := [some (aR 66), some (aR 3), some (aR 28)]) (s1 := [aR 66]) (h1 := setH hz0 52 1 1) rfl ?_
  refine A_obj hM (by decide) rfl rfl (mem_GW 402 (by decide +kernel) rfl) (by decide) (Nat.le_of_ble_eq_true rfl) ?_
  refine A_blk hM.1 2 (lv1 := [some (aR 66), some (aR 3), some (aR 28)]) (s1 := [aI 60, aR 66]) (h1 := setH hz0 52 1 1) rfl ?_
  refine A_newi hM.1 rfl rfl (L := 60) rfl rfl (by decide) (fun j => rfl) rfl (by decide) (rm_le hrm rfl rfl) ?_
  refine A_putr hM.1 rfl rfl rfl rfl (by decide) rfl (Or.inr ⟨rfl, hnm⟩) (by decide) rfl ?_
  refine A_blk hM.1 2 (lv1 := [some (aR 66), some (aR 3), some (aR 28)]) (s1 := [aI 60, aR 66]) (h1 := setH hz0 52 1 1) rfl ?_
  refine A_newi hM.1 rfl rfl (L := 60) rfl rfl (by decide) (fun j => rfl) rfl (by decide) (rm_le hrm rfl rfl) ?_
  refine A_putr hM.1 rfl rfl rfl rfl (by decide) rfl (Or.inr ⟨rfl, hnm⟩) (by decide) rfl ?_
  refine A_blk hM.1 2 (lv1 := [some (aR 66), some (aR 3), some (aR 28)]) (s1 := [aI 10, aR 66]) (h1 := setH hz0 52 1 1) rfl ?_
  refine A_newi hM.1 rfl rfl (L := 10) rfl rfl (by decide) (fun j => rfl) rfl (by decide) (rm_le hrm rfl rfl) ?_
  refine A_putr hM.1 rfl rfl rfl rfl (by decide) rfl (Or.inr ⟨rfl, hnm⟩) (by decide) rfl ?_
  refine A_blk hM.1 2 (lv1 := [some (aR 66), some (aR 3), some (aR 28)]) (s1 := [aI 10, aR 66]) (h1 := setH hz0 52 1 1) rfl ?_
  refine A_newi hM.1 rfl rfl (L := 10) rfl rfl (by decide) (fun j => rfl) rfl (by decide) (rm_le hrm rfl rfl) ?_
  refine A_putr hM.1 rfl rfl rfl rfl (by decide) rfl (Or.inr ⟨rfl, hnm⟩) (by decide) rfl ?_
  refine A_blk hM.1 2 (lv1 := [some (aR 66), some (aR 3), some (aR 28)]) (s1 := [aI 100, aR 66]) (h1 := setH hz0 52 1 1) rfl ?_
  refine A_newi hM.1 rfl rfl (L := 100) rfl rfl (by decide) (fun j => rfl) rfl (by decide) (rm_le hrm rfl rfl) ?_
  refine A_putr hM.1 rfl rfl rfl rfl (by decide) rfl (Or.inr ⟨rfl, hnm⟩) (by decide) rfl ?_
  refine A_blk hM.1 2 (lv1 := [some (aR 66), some (aR 3), some (aR 28)]) (s1 := [aI 10240, aR 66]) (h1 := setH hz0 52 1 1) rfl ?_
  refine A_newi hM.1 rfl rfl (L := 10240) rfl rfl (by decide) (fun j => rfl) rfl (by decide) (rm_le hrm rfl rfl) ?_
  refine A_putr hM.1 rfl rfl rfl rfl (by decide) rfl (Or.inr ⟨rfl, hnm⟩) (by decide) rfl ?_
  refine A_blk hM.1 2 (lv1 := [some (aR 66), some (aR 3), some (aR 28)]) (s1 := [aI 10240, aR 66]) (h1 := setH hz0 52 1 1) rfl ?_
  refine A_newi hM.1 rfl rfl (L := 10240) rfl rfl (by decide) (fun j => rfl) rfl (by decide) (rm_le hrm rfl rfl) ?_
  refine A_putr hM.1 rfl rfl rfl rfl (by decide) rfl (Or.inr ⟨rfl, hnm⟩) (by decide) rfl ?_
  refine A_blk hM.1 2 (lv1 := [some (aR 66), some (aR 3), some (aR 28)]) (s1 := [aI 10, aR 66]) (h1 := setH hz0 52 1 1) rfl ?_
  refine A_newi hM.1 rfl rfl (L := 10) rfl rfl (by decide) (fun j => rfl) rfl (by decide) (rm_le hrm rfl rfl) ?_
  refine A_putr hM.1 rfl rfl rfl rfl (by decide) rfl (Or.inr ⟨rfl, hnm⟩) (by decide) rfl ?_
  refine A_blk hM.1 2 (lv1 := [some (aR 66), some (aR 3), some (aR 28)]) (s1 := [aI 1024, aR 66]) (h1 := setH hz0 52 1 1) rfl ?_
  refine A_newi hM.1 rfl rfl (L := 1024) rfl rfl (by decide) (fun j => rfl) rfl (by decide) (rm_le hrm rfl rfl) ?_
  refine A_putr hM.1 rfl rfl rfl rfl (by decide) rfl (Or.inr ⟨rfl, hnm⟩) (by decide) rfl ?_
  refine A_blk hM.1 2 (lv1 := [some (aR 66), some (aR 3), some (aR 28)]) (s1 := [aI 10, aR 66]) (h1 := setH hz0 52 1 1) rfl ?_
  refine A_newi hM.1 rfl rfl (L := 10) rfl rfl (by decide) (fun j => rfl) rfl (by decide) (rm_le hrm rfl rfl) ?_
  refine A_putr hM.1 rfl rfl rfl rfl (by decide) rfl (Or.inr ⟨rfl, hnm⟩) (by decide) rfl ?_
  refine A_blk hM.1 5 (lv1 := [some (aR 66), some (aR 3), some (aR 28)]) (s1 := [aR 3, aR 66]) (h1 := setH (setH hz0 52 1 1) 66 16 (-1)) rfl ?_
  refine A_putr hM.1 rfl rfl rfl rfl (by decide) rfl (Or.inr ⟨rfl, hnm⟩) (by decide) rfl ?_
  refine A_blk hM.1 2 (lv1 := [some (aR 66), some (aR 3), some (aR 28)]) (s1 := [aR 28, aR 66]) (h1 := setH (setH hz0 52 1 1) 66 16 (-1)) rfl ?_
  refine A_putr hM.1 rfl rfl rfl rfl (by decide) rfl (Or.inr ⟨rfl, hnm⟩) (by decide) rfl ?_
  exact A_retv hM.1 rfl rfl rfl ⟨rfl, rfl, rfl⟩
set_option maxRecDepth 20000 in
set_option maxHeartbeats 4000000 in
theorem ci_15 {G : Gx} : CT G yX0_init M_X0_init 2 3 174 (78, rfS 86) (setH (setH hz0 52 1 1) 66 16 (-1)) [aR 77, aR 3, aR 36] (fun r F' h' => F' = (81, rfS 91) ∧ r = none ∧ h' = setH (setH hz0 52 1 1) 66 16 (-1)) := by
  refine CT.of (by decide +kernel) rfl (Nat.le_of_ble_eq_true rfl) k_X0_init fun k0 hrm0 hnm0 hM => ?_
  have hrm := KM_room k0 3 174 (fun r F' h' => F' = (81, rfS 91) ∧ r = none ∧ h' = setH (setH hz0 52 1 1) 66 16 (-1)) hrm0
  have hnm := KM_name k0 3 174 (fun r F' h' => F' = (81, rfS 91) ∧ r = none ∧ h' = setH (setH hz0 52 1 1) 66 16 (-1)) hnm0
  refine A_blk hM.1 1 (lv1 := [some (aR 77), some (aR 3), some (aR 36)]) (s1 := [aR 77]) (h1 := setH (setH hz0 52 1 1) 66 16 (-1)) rfl ?_
  refine A_obj hM (by decide) rfl rfl (mem_GW 463 (by decide +kernel) rfl) (by decide) (Nat.le_of_ble_eq_true rfl) ?_
  refine A_blk hM.1 2 (lv1 := [some (aR 77), some (aR 3), some (aR 36)]) (s1 := [aI 64, aR 77]) (h1 := setH (setH hz0 52 1 1) 66 16 (-1)) rfl ?_
  refine A_newi hM.1 rfl rfl (L := 64) rfl rfl (by decide) (fun j => rfl) rfl (by decide) (rm_le hrm rfl rfl) ?_
  refine A_putr hM.1 rfl rfl rfl rfl (by decide) rfl (Or.inr ⟨rfl, hnm⟩) (by decide) rfl ?_
  refine A_blk hM.1 2 (lv1 := [some (aR 77), some (aR 3), some (aR 36)]) (s1 := [aI 10, aR 77]) (h1 := setH (setH hz0 52 1 1) 66 16 (-1)) rfl ?_
  refine A_newi hM.1 rfl rfl (L := 10) rfl rfl (by decide) (fun j => rfl) rfl (by decide) (rm_le hrm rfl rfl) ?_
  refine A_putr hM.1 rfl rfl rfl rfl (by decide) rfl (Or.inr ⟨rfl, hnm⟩) (by decide) rfl ?_
  refine A_blk hM.1 2 (lv1 := [some (aR 77), some (aR 3), some (aR 36)]) (s1 := [aI 100, aR 77]) (h1 := setH (setH hz0 52 1 1) 66 16 (-1)) rfl ?_
  refine A_newi hM.1 rfl rfl (L := 100) rfl rfl (by decide) (fun j => rfl) rfl (by decide) (rm_le hrm rfl rfl) ?_
  refine A_putr hM.1 rfl rfl rfl rfl (by decide) rfl (Or.inr ⟨rfl, hnm⟩) (by decide) rfl ?_
  refine A_blk hM.1 2 (lv1 := [some (aR 77), some (aR 3), some (aR 36)]) (s1 := [aR 3, aR 77]) (h1 := setH (setH hz0 52 1 1) 66 16 (-1)) rfl ?_
  refine A_putr hM.1 rfl rfl rfl rfl (by decide) rfl (Or.inr ⟨rfl, hnm⟩) (by decide) rfl ?_
  refine A_blk hM.1 2 (lv1 := [some (aR 77), some (aR 3), some (aR 36)]) (s1 := [aR 36, aR 77]) (h1 := setH (setH hz0 52 1 1) 66 16 (-1)) rfl ?_
  refine A_putr hM.1 rfl rfl rfl rfl (by decide) rfl (Or.inr ⟨rfl, hnm⟩) (by decide) rfl ?_
  exact A_retv hM.1 rfl rfl rfl ⟨rfl, rfl, rfl⟩
set_option maxRecDepth 20000 in
set_option maxHeartbeats 4000000 in
theorem ci_16 {G : Gx} : CT G yX3_init M_X3_init 2 3 180 (82, rfS 92) (setH (setH hz0 52 1 1) 66 16 (-1)) [aR 81, aR 3] (fun r F' h' => F' = (85, rfS 96) ∧ r = none ∧ h' = setH (setH hz0 52 1 1) 66 16 (-1)) := by
  refine CT.of (by decide +kernel) rfl (Nat.le_of_ble_eq_true rfl) k_X3_init fun k0 hrm0 hnm0 hM => ?_
  have hrm := KM_room k0 3 180 (fun r F' h' => F' = (85, rfS 96) ∧ r = none ∧ h' = setH (setH hz0 52 1 1) 66 16 (-1)) hrm0
  have hnm := KM_name k0 3 180 (fun r F' h' => F' = (85, rfS 96) ∧ r = none ∧ h' = setH (setH hz0 52 1 1) 66 16 (-1)) hnm0
  refine A_blk hM.1 1 (lv1 := [some (aR 81), some (aR 3)]) (s1 := [aR 81]) (h1 := setH (setH hz0 52 1 1) 66 16 (-1)) rfl ?_
  refine A_obj hM (by decide) rfl rfl (mem_GW 506 (by decide +kernel) rfl) (by decide) (Nat.le_of_ble_eq_true rfl) ?_
  refine A_blk hM.1 2 (lv1 := [some (aR 81), some (aR 3)]) (s1 := [aI 60, aR 81]) (h1 := setH (setH hz0 52 1 1) 66 16 (-1)) rfl ?_
  refine A_newi hM.1 rfl rfl (L := 60) rfl rfl (by decide) (fun j => rfl) rfl (by decide) (rm_le hrm rfl rfl) ?_
  refine A_putr hM.1 rfl rfl rfl rfl (by decide) rfl (Or.inr ⟨rfl, hnm⟩) (by decide) rfl ?_
  refine A_blk hM.1 2 (lv1 := [some (aR 81), some (aR 3)]) (s1 := [aI 60, aR 81]) (h1 := setH (setH hz0 52 1 1) 66 16 (-1)) rfl ?_
  refine A_newi hM.1 rfl rfl (L := 60) rfl rfl (by decide) (fun j => rfl) rfl (by decide) (rm_le hrm rfl rfl) ?_
  refine A_putr hM.1 rfl rfl rfl rfl (by decide) rfl (Or.inr ⟨rfl, hnm⟩) (by decide) rfl ?_
  refine A_blk hM.1 2 (lv1 := [some (aR 81), some (aR 3)]) (s1 := [aI 60, aR 81]) (h1 := setH (setH hz0 52 1 1) 66 16 (-1)) rfl ?_
  refine A_newi hM.1 rfl rfl (L := 60) rfl rfl (by decide) (fun j => rfl) rfl (by decide) (rm_le hrm rfl rfl) ?_
  refine A_putr hM.1 rfl rfl rfl rfl (by decide) rfl (Or.inr ⟨rfl, hnm⟩) (by decide) rfl ?_
  refine A_blk hM.1 2 (lv1 := [some (aR 81), some (aR 3)]) (s1 := [aR 3, aR 81]) (h1 := setH (setH hz0 52 1 1) 66 16 (-1)) rfl ?_
  refine A_putr hM.1 rfl rfl rfl rfl (by decide) rfl (Or.inr ⟨rfl, hnm⟩) (by decide) rfl ?_
  exact A_retv hM.1 rfl rfl rfl ⟨rfl, rfl, rfl⟩
set_option maxRecDepth 20000 in
set_option maxHeartbeats 4000000 in
theorem ci_17 {G : Gx} : CT G yX10_init M_X10_init 2 7 446 (87, rfS 98) (setH (setH (setH hz0 52 1 1) 66 16 (-1)) 0 15 1) [aR 86] (fun r F' h' => F' = (94, rfS 105) ∧ r = none ∧ h' = setH (setH (setH hz0 52 1 1) 66 16 (-1)) 0 15 1) := by
  refine CT.of (by decide +kernel) rfl (Nat.le_of_ble_eq_true rfl) k_X10_init fun k0 hrm0 hnm0 hM => ?_
  have hrm := KM_room k0 7 446 (fun r F' h' => F' = (94, rfS 105) ∧ r = none ∧ h' = setH (setH (setH hz0 52 1 1) 66 16 (-1)) 0 15 1) hrm0
  have hnm := KM_name k0 7 446 (fun r F' h' => F' = (94, rfS 105) ∧ r = none ∧ h' = setH (setH (setH hz0 52 1 1) 66 16 (-1)) 0 15 1) hnm0
  refine A_blk hM.1 1 (lv1 := [some (aR 86)]) (s1 := [aR 86]) (h1 := setH (setH (setH hz0 52 1 1) 66 16 (-1)) 0 15 1) rfl ?_
  refine A_obj hM (by decide) rfl rfl (mem_GW 239 (by decide +kernel) rfl) (by decide) (Nat.le_of_ble_eq_true rfl) ?_
  refine A_blk hM.1 2 (lv1 := [some (aR 86)]) (s1 := [aI 12, aR 86]) (h1 := setH (setH (setH hz0 52 1 1) 66 16 (-1)) 0 15 1) rfl ?_
  refine A_newi hM.1 rfl rfl (L := 12) rfl rfl (by decide) (fun j => rfl) rfl (by decide) (rm_le hrm rfl rfl) ?_
  refine A_putr hM.1 rfl rfl rfl rfl (by decide) rfl (Or.inr ⟨rfl, hnm⟩) (by decide) rfl ?_
  refine A_blk hM.1 2 (lv1 := [some (aR 86)]) (s1 := [aI 12, aR 86]) (h1 := setH (setH (setH hz0 52 1 1) 66 16 (-1)) 0 15 1) rfl ?_
  refine A_newi hM.1 rfl rfl (L := 12) rfl rfl (by decide) (fun j => rfl) rfl (by decide) (rm_le hrm rfl rfl) ?_
  refine A_putr hM.1 rfl rfl rfl rfl (by decide) rfl (Or.inr ⟨rfl, hnm⟩) (by decide) rfl ?_
  refine A_blk hM.1 2 (lv1 := [some (aR 86)]) (s1 := [aI 12, aR 86]) (h1 := setH (setH (setH hz0 52 1 1) 66 16 (-1)) 0 15 1) rfl ?_
  refine A_newi hM.1 rfl rfl (L := 12) rfl rfl (by decide) (fun j => rfl) rfl (by decide) (rm_le hrm rfl rfl) ?_
  refine A_putr hM.1 rfl rfl rfl rfl (by decide) rfl (Or.inr ⟨rfl, hnm⟩) (by decide) rfl ?_
  refine A_blk hM.1 2 (lv1 := [some (aR 86)]) (s1 := [aI 160, aR 86]) (h1 := setH (setH (setH hz0 52 1 1) 66 16 (-1)) 0 15 1) rfl ?_
  refine A_newi hM.1 rfl rfl (L := 160) rfl rfl (by decide) (fun j => rfl) rfl (by decide) (rm_le hrm rfl rfl) ?_
  refine A_putr hM.1 rfl rfl rfl rfl (by decide) rfl (Or.inr ⟨rfl, hnm⟩) (by decide) rfl ?_
  refine A_blk hM.1 2 (lv1 := [some (aR 86)]) (s1 := [aI 160, aR 86]) (h1 := setH (setH (setH hz0 52 1 1) 66 16 (-1)) 0 15 1) rfl ?_
  refine A_newi hM.1 rfl rfl (L := 160) rfl rfl (by decide) (fun j => rfl) rfl (by decide) (rm_le hrm rfl rfl) ?_
  refine A_putr hM.1 rfl rfl rfl rfl (by decide) rfl (Or.inr ⟨rfl, hnm⟩) (by decide) rfl ?_
  refine A_blk hM.1 2 (lv1 := [some (aR 86)]) (s1 := [aI 26, aR 86]) (h1 := setH (setH (setH hz0 52 1 1) 66 16 (-1)) 0 15 1) rfl ?_
  refine A_newi hM.1 rfl rfl (L := 26) rfl rfl (by decide) (fun j => rfl) rfl (by decide) (rm_le hrm rfl rfl) ?_
  refine A_putr hM.1 rfl rfl rfl rfl (by decide) rfl (Or.inr ⟨rfl, hnm⟩) (by decide) rfl ?_
  refine A_blk hM.1 2 (lv1 := [some (aR 86)]) (s1 := [aI 64, aR 86]) (h1 := setH (setH (setH hz0 52 1 1) 66 16 (-1)) 0 15 1) rfl ?_
  refine A_newi hM.1 rfl rfl (L := 64) rfl rfl (by decide) (fun j => rfl) rfl (by decide) (rm_le hrm rfl rfl) ?_
  refine A_putr hM.1 rfl rfl rfl rfl (by decide) rfl (Or.inr ⟨rfl, hnm⟩) (by decide) rfl ?_
  exact A_retv hM.1 rfl rfl rfl ⟨rfl, rfl, rfl⟩
set_option maxRecDepth 20000 in
set_option maxHeartbeats 4000000 in
theorem ci_18 {G : Gx} : CT G yX10_init M_X10_init 2 7 446 (95, rfS 106) (setH (setH (setH hz0 52 1 1) 66 16 (-1)) 0 15 1) [aR 94] (fun r F' h' => F' = (102, rfS 113) ∧ r = none ∧ h' = setH (setH (setH hz0 52 1 1) 66 16 (-1)) 0 15 1) := by
  refine CT.of (by decide +kernel) rfl (Nat.le_of_ble_eq_true rfl) k_X10_init fun k0 hrm0 hnm0 hM => ?_
  have hrm := KM_room k0 7 446 (fun r F' h' => F' = (102, rfS 113) ∧ r = none ∧ h' = setH (setH (setH hz0 52 1 1) 66 16 (-1)) 0 15 1) hrm0
  have hnm := KM_name k0 7 446 (fun r F' h' => F' = (102, rfS 113) ∧ r = none ∧ h' = setH (setH (setH hz0 52 1 1) 66 16 (-1)) 0 15 1) hnm0
  refine A_blk hM.1 1 (lv1 := [some (aR 94)]) (s1 := [aR 94]) (h1 := setH (setH (setH hz0 52 1 1) 66 16 (-1)) 0 15 1) rfl ?_
  refine A_obj hM (by decide) rfl rfl (mem_GW 239 (by decide +kernel) rfl) (by decide) (Nat.le_of_ble_eq_true rfl) ?_
  refine A_blk hM.1 2 (lv1 := [some (aR 94)]) (s1 := [aI 12, aR 94]) (h1 := setH (setH (setH hz0 52 1 1) 66 16 (-1)) 0 15 1) rfl ?_
  refine A_newi hM.1 rfl rfl (L := 12) rfl rfl (by decide) (fun j => rfl) rfl (by decide) (rm_le hrm rfl rfl) ?_
  refine A_putr hM.1 rfl rfl rfl rfl (by decide) rfl (Or.inr ⟨rfl, hnm⟩) (by decide) rfl ?_
  refine A_blk hM.1 2 (lv1 := [some (aR 94)]) (s1 := [aI 12, aR 94]) (h1 := setH (setH (setH hz0 52 1 1) 66 16 (-1)) 0 15 1) rfl ?_
  refine A_newi hM.1 rfl rfl (L := 12) rfl rfl (by decide) (fun j => rfl) rfl (by decide) (rm_le hrm rfl rfl) ?_
  refine A_putr hM.1 rfl rfl rfl rfl (by decide) rfl (Or.inr ⟨rfl, hnm⟩) (by decide) rfl ?_
  refine A_blk hM.1 2 (lv1 := [some (aR 94)]) (s1 := [aI 12, aR 94]) (h1 := setH (setH (setH hz0 52 1 1) 66 16 (-1)) 0 15 1) rfl ?_
  refine A_newi hM.1 rfl rfl (L := 12) rfl rfl (by decide) (fun j => rfl) rfl (by decide) (rm_le hrm rfl rfl) ?_
  refine A_putr hM.1 rfl rfl rfl rfl (by decide) rfl (Or.inr ⟨rfl, hnm⟩) (by decide) rfl ?_
  refine A_blk hM.1 2 (lv1 := [some (aR 94)]) (s1 := [aI 160, aR 94]) (h1 := setH (setH (setH hz0 52 1 1) 66 16 (-1)) 0 15 1) rfl ?_
  refine A_newi hM.1 rfl rfl (L := 160) rfl rfl (by decide) (fun j => rfl) rfl (by decide) (rm_le hrm rfl rfl) ?_
  refine A_putr hM.1 rfl rfl rfl rfl (by decide) rfl (Or.inr ⟨rfl, hnm⟩) (by decide) rfl ?_
  refine A_blk hM.1 2 (lv1 := [some (aR 94)]) (s1 := [aI 160, aR 94]) (h1 := setH (setH (setH hz0 52 1 1) 66 16 (-1)) 0 15 1) rfl ?_
  refine A_newi hM.1 rfl rfl (L := 160) rfl rfl (by decide) (fun j => rfl) rfl (by decide) (rm_le hrm rfl rfl) ?_
  refine A_putr hM.1 rfl rfl rfl rfl (by decide) rfl (Or.inr ⟨rfl, hnm⟩) (by decide) rfl ?_
  refine A_blk hM.1 2 (lv1 := [some (aR 94)]) (s1 := [aI 26, aR 94]) (h1 := setH (setH (setH hz0 52 1 1) 66 16 (-1)) 0 15 1) rfl ?_
  refine A_newi hM.1 rfl rfl (L := 26) rfl rfl (by decide) (fun j => rfl) rfl (by decide) (rm_le hrm rfl rfl) ?_
  refine A_putr hM.1 rfl rfl rfl rfl (by decide) rfl (Or.inr ⟨rfl, hnm⟩) (by decide) rfl ?_
  refine A_blk hM.1 2 (lv1 := [some (aR 94)]) (s1 := [aI 64, aR 94]) (h1 := setH (setH (setH hz0 52 1 1) 66 16 (-1)) 0 15 1) rfl ?_
  refine A_newi hM.1 rfl rfl (L := 64) rfl rfl (by decide) (fun j => rfl) rfl (by decide) (rm_le hrm rfl rfl) ?_
  refine A_putr hM.1 rfl rfl rfl rfl (by decide) rfl (Or.inr ⟨rfl, hnm⟩) (by decide) rfl ?_
  exact A_retv hM.1 rfl rfl rfl ⟨rfl, rfl, rfl⟩
set_option maxRecDepth 20000 in
set_option maxHeartbeats 4000000 in
theorem ci_19 {G : Gx} : CT G yX10_init M_X10_init 2 7 446 (103, rfS 114) (setH (setH (setH hz0 52 1 1) 66 16 (-1)) 0 15 1) [aR 102] (fun r F' h' => F' = (110, rfS 121) ∧ r = none ∧ h' = setH (setH (setH hz0 52 1 1) 66 16 (-1)) 0 15 1) := by
  refine CT.of (by decide +kernel) rfl (Nat.le_of_ble_eq_true rfl) k_X10_init fun k0 hrm0 hnm0 hM => ?_
  have hrm := KM_room k0 7 446 (fun r F' h' => F' = (110, rfS 121) ∧ r = none ∧ h' = setH (setH (setH hz0 52 1 1) 66 16 (-1)) 0 15 1) hrm0
  have hnm := KM_name k0 7 446 (fun r F' h' => F' = (110, rfS 121) ∧ r = none ∧ h' = setH (setH (setH hz0 52 1 1) 66 16 (-1)) 0 15 1) hnm0
  refine A_blk hM.1 1 (lv1 := [some (aR 102)]) (s1 := [aR 102]) (h1 := setH (setH (setH hz0 52 1 1) 66 16 (-1)) 0 15 1) rfl ?_
  refine A_obj hM (by decide) rfl rfl (mem_GW 239 (by decide +kernel) rfl) (by decide) (Nat.le_of_ble_eq_true rfl) ?_
  refine A_blk hM.1 2 (lv1 := [some (aR 102)]) (s1 := [aI 12, aR 102]) (h1 := setH (setH (setH hz0 52 1 1) 66 16 (-1)) 0 15 1) rfl ?_
  refine A_newi hM.1 rfl rfl (L := 12) rfl rfl (by decide) (fun j => rfl) rfl (by decide) (rm_le hrm rfl rfl) ?_
  refine A_putr hM.1 rfl rfl rfl rfl (by decide) rfl (Or.inr ⟨rfl, hnm⟩) (by decide) rfl ?_
  refine A_blk hM.1 2 (lv1 := [some (aR 102)]) (s1 := [aI 12, aR 102]) (h1 := setH (setH (setH hz0 52 1 1) 66 16 (-1)) 0 15 1) rfl ?_
  refine A_newi hM.1 rfl rfl (L := 12) rfl rfl (by decide) (fun j => rfl) rfl (by decide) (rm_le hrm rfl rfl) ?_
  refine A_putr hM.1 rfl rfl rfl rfl (by decide) rfl (Or.inr ⟨rfl, hnm⟩) (by decide) rfl ?_
  refine A_blk hM.1 2 (lv1 := [some (aR 102)]) (s1 := [aI 12, aR 102]) (h1 := setH (setH (setH hz0 52 1 1) 66 16 (-1)) 0 15 1) rfl ?_
  refine A_newi hM.1 rfl rfl (L := 12) rfl rfl (by decide) (fun j => rfl) rfl (by decide) (rm_le hrm rfl rfl) ?_
  refine A_putr hM.1 rfl rfl rfl rfl (by decide) rfl (Or.inr ⟨rfl, hnm⟩) (by decide) rfl ?_
  refine A_blk hM.1 2 (lv1 := [some (aR 102)]) (s1 := [aI 160, aR 102]) (h1 := setH (setH (setH hz0 52 1 1) 66 16 (-1)) 0 15 1) rfl ?_
  refine A_newi hM.1 rfl rfl (L := 160) rfl rfl (by decide) (fun j => rfl) rfl (by decide) (rm_le hrm rfl rfl) ?_
  refine A_putr hM.1 rfl rfl rfl rfl (by decide) rfl (Or.inr ⟨rfl, hnm⟩) (by decide) rfl ?_
  refine A_blk hM.1 2 (lv1 := [some (aR 102)]) (s1 := [aI 160, aR 102]) (h1 := setH (setH (setH hz0 52 1 1) 66 16 (-1)) 0 15 1) rfl ?_
  refine A_newi hM.1 rfl rfl (L := 160) rfl rfl (by decide) (fun j => rfl) rfl (by decide) (rm_le hrm rfl rfl) ?_
  refine A_putr hM.1 rfl rfl rfl rfl (by decide) rfl (Or.inr ⟨rfl, hnm⟩) (by decide) rfl ?_
  refine A_blk hM.1 2 (lv1 := [some (aR 102)]) (s1 := [aI 26, aR 102]) (h1 := setH (setH (setH hz0 52 1 1) 66 16 (-1)) 0 15 1) rfl ?_
  refine A_newi hM.1 rfl rfl (L := 26) rfl rfl (by decide) (fun j => rfl) rfl (by decide) (rm_le hrm rfl rfl) ?_
  refine A_putr hM.1 rfl rfl rfl rfl (by decide) rfl (Or.inr ⟨rfl, hnm⟩) (by decide) rfl ?_
  refine A_blk hM.1 2 (lv1 := [some (aR 102)]) (s1 := [aI 64, aR 102]) (h1 := setH (setH (setH hz0 52 1 1) 66 16 (-1)) 0 15 1) rfl ?_
  refine A_newi hM.1 rfl rfl (L := 64) rfl rfl (by decide) (fun j => rfl) rfl (by decide) (rm_le hrm rfl rfl) ?_
  refine A_putr hM.1 rfl rfl rfl rfl (by decide) rfl (Or.inr ⟨rfl, hnm⟩) (by decide) rfl ?_
  exact A_retv hM.1 rfl rfl rfl ⟨rfl, rfl, rfl⟩
set_option maxRecDepth 20000 in
set_option maxHeartbeats 4000000 in
theorem ci_20 {G : Gx} : CT G yX10_init M_X10_init 2 7 446 (111, rfS 122) (setH (setH (setH hz0 52 1 1) 66 16 (-1)) 0 15 1) [aR 110] (fun r F' h' => F' = (118, rfS 129) ∧ r = none ∧ h' = setH (setH (setH hz0 52 1 1) 66 16 (-1)) 0 15 1) := by
  refine CT.of (by decide +kernel) rfl (Nat.le_of_ble_eq_true rfl) k_X10_init fun k0 hrm0 hnm0 hM => ?_
  have hrm := KM_room k0 7 446 (fun r F' h' => F' = (118, rfS 129) ∧ r = none ∧ h' = setH (setH (setH hz0 52 1 1) 66 16 (-1)) 0 15 1) hrm0
  have hnm := KM_name k0 7 446 (fun r F' h' => F' = (118, rfS 129) ∧ r = none ∧ h' = setH (setH (setH hz0 52 1 1) 66 16 (-1)) 0 15 1) hnm0
  refine A_blk hM.1 1 (lv1 := [some (aR 110)]) (s1 := [aR 110]) (h1 := setH (setH (setH hz0 52 1 1) 66 16 (-1)) 0 15 1) rfl ?_
  refine A_obj hM (by decide) rfl rfl (mem_GW 239 (by decide +kernel) rfl) (by decide) (Nat.le_of_ble_eq_true rfl) ?_
  refine A_blk hM.1 2 (lv1 := [some (aR 110)]) (s1 := [aI 12, aR 110]) (h1 := setH (setH (setH hz0 52 1 1) 66 16 (-1)) 0 15 1) rfl ?_
  refine A_newi hM.1 rfl rfl (L := 12) rfl rfl (by decide) (fun j => rfl) rfl (by decide) (rm_le hrm rfl rfl) ?_
  refine A_putr hM.1 rfl rfl rfl rfl (by decide) rfl (Or.inr ⟨rfl, hnm⟩) (by decide) rfl ?_
  refine A_blk hM.1 2 (lv1 := [some (aR 110)]) (s1 := [aI 12, aR 110]) (h1 := setH (setH (setH hz0 52 1 1) 66 16 (-1)) 0 15 1) rfl ?_
  refine A_newi hM.1 rfl rfl (L := 12) rfl rfl (by decide) (fun j => rfl) rfl (by decide) (rm_le hrm rfl rfl) ?_
  refine A_putr hM.1 rfl rfl rfl rfl (by decide) rfl (Or.inr ⟨rfl, hnm⟩) (by decide) rfl ?_
  refine A_blk hM.1 2 (lv1 := [some (aR 110)]) (s1 := [aI 12, aR 110]) (h1 := setH (setH (setH hz0 52 1 1) 66 16 (-1)) 0 15 1) rfl ?_
  refine A_newi hM.1 rfl rfl (L := 12) rfl rfl (by decide) (fun j => rfl) rfl (by decide) (rm_le hrm rfl rfl) ?_
  refine A_putr hM.1 rfl rfl rfl rfl (by decide) rfl (Or.inr ⟨rfl, hnm⟩) (by decide) rfl ?_
  refine A_blk hM.1 2 (lv1 := [some (aR 110)]) (s1 := [aI 160, aR 110]) (h1 := setH (setH (setH hz0 52 1 1) 66 16 (-1)) 0 15 1) rfl ?_
  refine A_newi hM.1 rfl rfl (L := 160) rfl rfl (by decide) (fun j => rfl) rfl (by decide) (rm_le hrm rfl rfl) ?_
  refine A_putr hM.1 rfl rfl rfl rfl (by decide) rfl (Or.inr ⟨rfl, hnm⟩) (by decide) rfl ?_
  refine A_blk hM.1 2 (lv1 := [some (aR 110)]) (s1 := [aI 160, aR 110]) (h1 := setH (setH (setH hz0 52 1 1) 66 16 (-1)) 0 15 1) rfl ?_
  refine A_newi hM.1 rfl rfl (L := 160) rfl rfl (by decide) (fun j => rfl) rfl (by decide) (rm_le hrm rfl rfl) ?_
  refine A_putr hM.1 rfl rfl rfl rfl (by decide) rfl (Or.inr ⟨rfl, hnm⟩) (by decide) rfl ?_
  refine A_blk hM.1 2 (lv1 := [some (aR 110)]) (s1 := [aI 26, aR 110]) (h1 := setH (setH (setH hz0 52 1 1) 66 16 (-1)) 0 15 1) rfl ?_
  refine A_newi hM.1 rfl rfl (L := 26) rfl rfl (by decide) (fun j => rfl) rfl (by decide) (rm_le hrm rfl rfl) ?_
  refine A_putr hM.1 rfl rfl rfl rfl (by decide) rfl (Or.inr ⟨rfl, hnm⟩) (by decide) rfl ?_
  refine A_blk hM.1 2 (lv1 := [some (aR 110)]) (s1 := [aI 64, aR 110]) (h1 := setH (setH (setH hz0 52 1 1) 66 16 (-1)) 0 15 1) rfl ?_
  refine A_newi hM.1 rfl rfl (L := 64) rfl rfl (by decide) (fun j => rfl) rfl (by decide) (rm_le hrm rfl rfl) ?_
  refine A_putr hM.1 rfl rfl rfl rfl (by decide) rfl (Or.inr ⟨rfl, hnm⟩) (by decide) rfl ?_
  exact A_retv hM.1 rfl rfl rfl ⟨rfl, rfl, rfl⟩
set_option maxRecDepth 20000 in
set_option maxHeartbeats 4000000 in
theorem ci_21 {G : Gx} : CT G yX10_init M_X10_init 2 7 446 (119, rfS 130) (setH (setH (setH hz0 52 1 1) 66 16 (-1)) 0 15 1) [aR 118] (fun r F' h' => F' = (126, rfS 137) ∧ r = none ∧ h' = setH (setH (setH hz0 52 1 1) 66 16 (-1)) 0 15 1) := by
  refine CT.of (by decide +kernel) rfl (Nat.le_of_ble_eq_true rfl) k_X10_init fun k0 hrm0 hnm0 hM => ?_
  have hrm := KM_room k0 7 446 (fun r F' h' => F' = (126, rfS 137) ∧ r = none ∧ h' = setH (setH (setH hz0 52 1 1) 66 16 (-1)) 0 15 1) hrm0
  have hnm := KM_name k0 7 446 (fun r F' h' => F' = (126, rfS 137) ∧ r = none ∧ h' = setH (setH (setH hz0 52 1 1) 66 16 (-1)) 0 15 1) hnm0
  refine A_blk hM.1 1 (lv1 := [some (aR 118)]) (s1 := [aR 118]) (h1 := setH (setH (setH hz0 52 1 1) 66 16 (-1)) 0 15 1) rfl ?_
  refine A_obj hM (by decide) rfl rfl (mem_GW 239 (by decide +kernel) rfl) (by decide) (Nat.le_of_ble_eq_true rfl) ?_
  refine A_blk hM.1 2 (lv1 := [some (aR 118)]) (s1 := [aI 12, aR 118]) (h1 := setH (setH (setH hz0 52 1 1) 66 16 (-1)) 0 15 1) rfl ?_
  refine A_newi hM.1 rfl rfl (L := 12) rfl rfl (by decide) (fun j => rfl) rfl (by decide) (rm_le hrm rfl rfl) ?_
  refine A_putr hM.1 rfl rfl rfl rfl (by decide) rfl (Or.inr ⟨rfl, hnm⟩) (by decide) rfl ?_
  refine A_blk hM.1 2 (lv1 := [some (aR 118)]) (s1 := [aI 12, aR 118]) (h1 := setH (setH (setH hz0 52 1 1) 66 16 (-1)) 0 15 1) rfl ?_
  refine A_newi hM.1 rfl rfl (L := 12) rfl rfl (by decide) (fun j => rfl) rfl (by decide) (rm_le hrm rfl rfl) ?_
  refine A_putr hM.1 rfl rfl rfl rfl (by decide) rfl (Or.inr ⟨rfl, hnm⟩) (by decide) rfl ?_
  refine A_blk hM.1 2 (lv1 := [some (aR 118)]) (s1 := [aI 12, aR 118]) (h1 := setH (setH (setH hz0 52 1 1) 66 16 (-1)) 0 15 1) rfl ?_
  refine A_newi hM.1 rfl rfl (L := 12) rfl rfl (by decide) (fun j => rfl) rfl (by decide) (rm_le hrm rfl rfl) ?_
  refine A_putr hM.1 rfl rfl rfl rfl (by decide) rfl (Or.inr ⟨rfl, hnm⟩) (by decide) rfl ?_
  refine A_blk hM.1 2 (lv1 := [some (aR 118)]) (s1 := [aI 160, aR 118]) (h1 := setH (setH (setH hz0 52 1 1) 66 16 (-1)) 0 15 1) rfl ?_
  refine A_newi hM.1 rfl rfl (L := 160) rfl rfl (by decide) (fun j => rfl) rfl (by decide) (rm_le hrm rfl rfl) ?_
  refine A_putr hM.1 rfl rfl rfl rfl (by decide) rfl (Or.inr ⟨rfl, hnm⟩) (by decide) rfl ?_
  refine A_blk hM.1 2 (lv1 := [some (aR 118)]) (s1 := [aI 160, aR 118]) (h1 := setH (setH (setH hz0 52 1 1) 66 16 (-1)) 0 15 1) rfl ?_
  refine A_newi hM.1 rfl rfl (L := 160) rfl rfl (by decide) (fun j => rfl) rfl (by decide) (rm_le hrm rfl rfl) ?_
  refine A_putr hM.1 rfl rfl rfl rfl (by decide) rfl (Or.inr ⟨rfl, hnm⟩) (by decide) rfl ?_
  refine A_blk hM.1 2 (lv1 := [some (aR 118)]) (s1 := [aI 26, aR 118]) (h1 := setH (setH (setH hz0 52 1 1) 66 16 (-1)) 0 15 1) rfl ?_
  refine A_newi hM.1 rfl rfl (L := 26) rfl rfl (by decide) (fun j => rfl) rfl (by decide) (rm_le hrm rfl rfl) ?_
  refine A_putr hM.1 rfl rfl rfl rfl (by decide) rfl (Or.inr ⟨rfl, hnm⟩) (by decide) rfl ?_
  refine A_blk hM.1 2 (lv1 := [some (aR 118)]) (s1 := [aI 64, aR 118]) (h1 := setH (setH (setH hz0 52 1 1) 66 16 (-1)) 0 15 1) rfl ?_
  refine A_newi hM.1 rfl rfl (L := 64) rfl rfl (by decide) (fun j => rfl) rfl (by decide) (rm_le hrm rfl rfl) ?_
  refine A_putr hM.1 rfl rfl rfl rfl (by decide) rfl (Or.inr ⟨rfl, hnm⟩) (by decide) rfl ?_
  exact A_retv hM.1 rfl rfl rfl ⟨rfl, rfl, rfl⟩
set_option maxRecDepth 20000 in
set_option maxHeartbeats 4000000 in
theorem ci_22 {G : Gx} : CT G yX10_init M_X10_init 2 7 446 (127, rfS 138) (setH (setH (setH hz0 52 1 1) 66 16 (-1)) 0 15 1) [aR 126] (fun r F' h' => F' = (134, rfS 145) ∧ r = none ∧ h' = setH (setH (setH hz0 52 1 1) 66 16 (-1)) 0 15 1) := by
  refine CT.of (by decide +kernel) rfl (Nat.le_of_ble_eq_true rfl) k_X10_init fun k0 hrm0 hnm0 hM => ?_
  have hrm := KM_room k0 7 446 (fun r F' h' => F' = (134, rfS 145) ∧ r = none ∧ h' = setH (setH (setH hz0 52 1 1) 66 16 (-1)) 0 15 1) hrm0
  have hnm := KM_name k0 7 446 (fun r F' h' => F' = (134, rfS 145) ∧ r = none ∧ h' = setH (setH (setH hz0 52 1 1) 66 16 (-1)) 0 15 1) hnm0
  refine A_blk hM.1 1 (lv1 := [some (aR 126)]) (s1 := [aR 126]) (h1 := setH (setH (setH hz0 52 1 1) 66 16 (-1)) 0 15 1) rfl ?_
  refine A_obj hM (by decide) rfl rfl (mem_GW 239 (by decide +kernel) rfl) (by decide) (Nat.le_of_ble_eq_true rfl) ?_
  refine A_blk hM.1 2 (lv1 := [some (aR 126)]) (s1 := [aI 12, aR 126]) (h1 := setH (setH (setH hz0 52 1 1) 66 16 (-1)) 0 15 1) rfl ?_
  refine A_newi hM.1 rfl rfl (L := 12) rfl rfl (by decide) (fun j => rfl) rfl (by decide) (rm_le hrm rfl rfl) ?_
  refine A_putr hM.1 rfl rfl rfl rfl (by decide) rfl (Or.inr ⟨rfl, hnm⟩) (by decide) rfl ?_
  refine A_blk hM.1 2 (lv1 := [some (aR 126)]) (s1 := [aI 12, aR 126]) (h1 := setH (setH (setH hz0 52 1 1) 66 16 (-1)) 0 15 1) rfl ?_
  refine A_newi hM.1 rfl rfl (L := 12) rfl rfl (by decide) (fun j => rfl) rfl (by decide) (rm_le hrm rfl rfl) ?_
  refine A_putr hM.1 rfl rfl rfl rfl (by decide) rfl (Or.inr ⟨rfl, hnm⟩) (by decide) rfl ?_
  refine A_blk hM.1 2 (lv1 := [some (aR 126)]) (s1 := [aI 12, aR 126]) (h1 := setH (setH (setH hz0 52 1 1) 66 16 (-1)) 0 15 1) rfl ?_
  refine A_newi hM.1 rfl rfl (L := 12) rfl rfl (by decide) (fun j => rfl) rfl (by decide) (rm_le hrm rfl rfl) ?_
  refine A_putr hM.1 rfl rfl rfl rfl (by decide) rfl (Or.inr ⟨rfl, hnm⟩) (by decide) rfl ?_
  refine A_blk hM.1 2 (lv1 := [some (aR 126)]) (s1 := [aI 160, aR 126]) (h1 := setH (setH (setH hz0 52 1 1) 66 16 (-1)) 0 15 1) rfl ?_
  refine A_newi hM.1 rfl rfl (L := 160) rfl rfl (by decide) (fun j => rfl) rfl (by decide) (rm_le hrm rfl rfl) ?_
  refine A_putr hM.1 rfl rfl rfl rfl (by decide) rfl (Or.inr ⟨rfl, hnm⟩) (by decide) rfl ?_
  refine A_blk hM.1 2 (lv1 := [some (aR 126)]) (s1 := [aI 160, aR 126]) (h1 := setH (setH (setH hz0 52 1 1) 66 16 (-1)) 0 15 1) rfl ?_
  refine A_newi hM.1 rfl rfl (L := 160) rfl rfl (by decide) (fun j => rfl) rfl (by decide) (rm_le hrm rfl rfl) ?_
  refine A_putr hM.1 rfl rfl rfl rfl (by decide) rfl (Or.inr ⟨rfl, hnm⟩) (by decide) rfl ?_
  refine A_blk hM.1 2 (lv1 := [some (aR 126)]) (s1 := [aI 26, aR 126]) (h1 := setH (setH (setH hz0 52 1 1) 66 16 (-1)) 0 15 1) rfl ?_
  refine A_newi hM.1 rfl rfl (L := 26) rfl rfl (by decide) (fun j => rfl) rfl (by decide) (rm_le hrm rfl rfl) ?_
  refine A_putr hM.1 rfl rfl rfl rfl (by decide) rfl (Or.inr ⟨rfl, hnm⟩) (by decide) rfl ?_
  refine A_blk hM.1 2 (lv1 := [some (aR 126)]) (s1 := [aI 64, aR 126]) (h1 := setH (setH (setH hz0 52 1 1) 66 16 (-1)) 0 15 1) rfl ?_
  refine A_newi hM.1 rfl rfl (L := 64) rfl rfl (by decide) (fun j => rfl) rfl (by decide) (rm_le hrm rfl rfl) ?_
  refine A_putr hM.1 rfl rfl rfl rfl (by decide) rfl (Or.inr ⟨rfl, hnm⟩) (by decide) rfl ?_
  exact A_retv hM.1 rfl rfl rfl ⟨rfl, rfl, rfl⟩
set_option maxRecDepth 20000 in
set_option maxHeartbeats 4000000 in
theorem ci_23 {G : Gx} : CT G yX10_init M_X10_init 2 7 446 (135, rfS 146) (setH (setH (setH hz0 52 1 1) 66 16 (-1)) 0 15 1) [aR 134] (fun r F' h' => F' = (142, rfS 153) ∧ r = none ∧ h' = setH (setH (setH hz0 52 1 1) 66 16 (-1)) 0 15 1) := by
  refine CT.of (by decide +kernel) rfl (Nat.le_of_ble_eq_true rfl) k_X10_init fun k0 hrm0 hnm0 hM => ?_
  have hrm := KM_room k0 7 446 (fun r F' h' => F' = (142, rfS 153) ∧ r = none ∧ h' = setH (setH (setH hz0 52 1 1) 66 16 (-1)) 0 15 1) hrm0
  have hnm := KM_name k0 7 446 (fun r F' h' => F' = (142, rfS 153) ∧ r = none ∧ h' = setH (setH (setH hz0 52 1 1) 66 16 (-1)) 0 15 1) hnm0
  refine A_blk hM.1 1 (lv1 := [some (aR 134)]) (s1 := [aR 134]) (h1 := setH (setH (setH hz0 52 1 1) 66 16 (-1)) 0 15 1) rfl ?_
  refine A_obj hM (by decide) rfl rfl (mem_GW 239 (by decide +kernel) rfl) (by decide) (Nat.le_of_ble_eq_true rfl) ?_
  refine A_blk hM.1 2 (lv1 := [some (aR 134)]) (s1 := [aI 12, aR 134]) (h1 := setH (setH (setH hz0 52 1 1) 66 16 (-1)) 0 15 1) rfl ?_
  refine A_newi hM.1 rfl rfl (L := 12) rfl rfl (by decide) (fun j => rfl) rfl (by decide) (rm_le hrm rfl rfl) ?_
  refine A_putr hM.1 rfl rfl rfl rfl (by decide) rfl (Or.inr ⟨rfl, hnm⟩) (by decide) rfl ?_
  refine A_blk hM.1 2 (lv1 := [some (aR 134)]) (s1 := [aI 12, aR 134]) (h1 := setH (setH (setH hz0 52 1 1) 66 16 (-1)) 0 15 1) rfl ?_
  refine A_newi hM.1 rfl rfl (L := 12) rfl rfl (by decide) (fun j => rfl) rfl (by decide) (rm_le hrm rfl rfl) ?_
  refine A_putr hM.1 rfl rfl rfl rfl (by decide) rfl (Or.inr ⟨rfl, hnm⟩) (by decide) rfl ?_
  refine A_blk hM.1 2 (lv1 := [some (aR 134)]) (s1 := [aI 12, aR 134]) (h1 := setH (setH (setH hz0 52 1 1) 66 16 (-1)) 0 15 1) rfl ?_
  refine A_newi hM.1 rfl rfl (L := 12) rfl rfl (by decide) (fun j => rfl) rfl (by decide) (rm_le hrm rfl rfl) ?_
  refine A_putr hM.1 rfl rfl rfl rfl (by decide) rfl (Or.inr ⟨rfl, hnm⟩) (by decide) rfl ?_
  refine A_blk hM.1 2 (lv1 := [some (aR 134)]) (s1 := [aI 160, aR 134]) (h1 := setH (setH (setH hz0 52 1 1) 66 16 (-1)) 0 15 1) rfl ?_
  refine A_newi hM.1 rfl rfl (L := 160) rfl rfl (by decide) (fun j => rfl) rfl (by decide) (rm_le hrm rfl rfl) ?_
  refine A_putr hM.1 rfl rfl rfl rfl (by decide) rfl (Or.inr ⟨rfl, hnm⟩) (by decide) rfl ?_
  refine A_blk hM.1 2 (lv1 := [some (aR 134)]) (s1 := [aI 160, aR 134]) (h1 := setH (setH (setH hz0 52 1 1) 66 16 (-1)) 0 15 1) rfl ?_
  refine A_newi hM.1 rfl rfl (L := 160) rfl rfl (by decide) (fun j => rfl) rfl (by decide) (rm_le hrm rfl rfl) ?_
  refine A_putr hM.1 rfl rfl rfl rfl (by decide) rfl (Or.inr ⟨rfl, hnm⟩) (by decide) rfl ?_
  refine A_blk hM.1 2 (lv1 := [some (aR 134)]) (s1 := [aI 26, aR 134]) (h1 := setH (setH (setH hz0 52 1 1) 66 16 (-1)) 0 15 1) rfl ?_
  refine A_newi hM.1 rfl rfl (L := 26) rfl rfl (by decide) (fun j => rfl) rfl (by decide) (rm_le hrm rfl rfl) ?_
  refine A_putr hM.1 rfl rfl rfl rfl (by decide) rfl (Or.inr ⟨rfl, hnm⟩) (by decide) rfl ?_
  refine A_blk hM.1 2 (lv1 := [some (aR 134)]) (s1 := [aI 64, aR 134]) (h1 := setH (setH (setH hz0 52 1 1) 66 16 (-1)) 0 15 1) rfl ?_
  refine A_newi hM.1 rfl rfl (L := 64) rfl rfl (by decide) (fun j => rfl) rfl (by decide) (rm_le hrm rfl rfl) ?_
  refine A_putr hM.1 rfl rfl rfl rfl (by decide) rfl (Or.inr ⟨rfl, hnm⟩) (by decide) rfl ?_
  exact A_retv hM.1 rfl rfl rfl ⟨rfl, rfl, rfl⟩
set_option maxRecDepth 20000 in
set_option maxHeartbeats 4000000 in
theorem ci_24 {G : Gx} : CT G yX10_init M_X10_init 2 7 446 (143, rfS 154) (setH (setH (setH hz0 52 1 1) 66 16 (-1)) 0 15 1) [aR 142] (fun r F' h' => F' = (150, rfS 161) ∧ r = none ∧ h' = setH (setH (setH hz0 52 1 1) 66 16 (-1)) 0 15 1) := by
  refine CT.of (by decide +kernel) rfl (Nat.le_of_ble_eq_true rfl) k_X10_init fun k0 hrm0 hnm0 hM => ?_
  have hrm := KM_room k0 7 446 (fun r F' h' => F' = (150, rfS 161) ∧ r = none ∧ h' = setH (setH (setH hz0 52 1 1) 66 16 (-1)) 0 15 1) hrm0
  have hnm := KM_name k0 7 446 (fun r F' h' => F' = (150, rfS 161) ∧ r = none ∧ h' = setH (setH (setH hz0 52 1 1) 66 16 (-1)) 0 15 1) hnm0
  refine A_blk hM.1 1 (lv1 := [some (aR 142)]) (s1 := [aR 142]) (h1 := setH (setH (setH hz0 52 1 1) 66 16 (-1)) 0 15 1) rfl ?_
  refine A_obj hM (by decide) rfl rfl (mem_GW 239 (by decide +kernel) rfl) (by decide) (Nat.le_of_ble_eq_true rfl) ?_
  refine A_blk hM.1 2 (lv1 := [some (aR 142)]) (s1 := [aI 12, aR 142]) (h1 := setH (setH (setH hz0 52 1 1) 66 16 (-1)) 0 15 1) rfl ?_
  refine A_newi hM.1 rfl rfl (L := 12) rfl rfl (by decide) (fun j => rfl) rfl (by decide) (rm_le hrm rfl rfl) ?_
  refine A_putr hM.1 rfl rfl rfl rfl (by decide) rfl (Or.inr ⟨rfl, hnm⟩) (by decide) rfl ?_
  refine A_blk hM.1 2 (lv1 := [some (aR 142)]) (s1 := [aI 12, aR 142]) (h1 := setH (setH (setH hz0 52 1 1) 66 16 (-1)) 0 15 1) rfl ?_
  refine A_newi hM.1 rfl rfl (L := 12) rfl rfl (by decide) (fun j => rfl) rfl (by decide) (rm_le hrm rfl rfl) ?_
  refine A_putr hM.1 rfl rfl rfl rfl (by decide) rfl (Or.inr ⟨rfl, hnm⟩) (by decide) rfl ?_
  refine A_blk hM.1 2 (lv1 := [some (aR 142)]) (s1 := [aI 12, aR 142]) (h1 := setH (setH (setH hz0 52 1 1) 66 16 (-1)) 0 15 1) rfl ?_
  refine A_newi hM.1 rfl rfl (L := 12) rfl rfl (by decide) (fun j => rfl) rfl (by decide) (rm_le hrm rfl rfl) ?_
  refine A_putr hM.1 rfl rfl rfl rfl (by decide) rfl (Or.inr ⟨rfl, hnm⟩) (by decide) rfl ?_
  refine A_blk hM.1 2 (lv1 := [some (aR 142)]) (s1 := [aI 160, aR 142]) (h1 := setH (setH (setH hz0 52 1 1) 66 16 (-1)) 0 15 1) rfl ?_
  refine A_newi hM.1 rfl rfl (L := 160) rfl rfl (by decide) (fun j => rfl) rfl (by decide) (rm_le hrm rfl rfl) ?_
  refine A_putr hM.1 rfl rfl rfl rfl (by decide) rfl (Or.inr ⟨rfl, hnm⟩) (by decide) rfl ?_
  refine A_blk hM.1 2 (lv1 := [some (aR 142)]) (s1 := [aI 160, aR 142]) (h1 := setH (setH (setH hz0 52 1 1) 66 16 (-1)) 0 15 1) rfl ?_
  refine A_newi hM.1 rfl rfl (L := 160) rfl rfl (by decide) (fun j => rfl) rfl (by decide) (rm_le hrm rfl rfl) ?_
  refine A_putr hM.1 rfl rfl rfl rfl (by decide) rfl (Or.inr ⟨rfl, hnm⟩) (by decide) rfl ?_
  refine A_blk hM.1 2 (lv1 := [some (aR 142)]) (s1 := [aI 26, aR 142]) (h1 := setH (setH (setH hz0 52 1 1) 66 16 (-1)) 0 15 1) rfl ?_
  refine A_newi hM.1 rfl rfl (L := 26) rfl rfl (by decide) (fun j => rfl) rfl (by decide) (rm_le hrm rfl rfl) ?_
  refine A_putr hM.1 rfl rfl rfl rfl (by decide) rfl (Or.inr ⟨rfl, hnm⟩) (by decide) rfl ?_
  refine A_blk hM.1 2 (lv1 := [some (aR 142)]) (s1 := [aI 64, aR 142]) (h1 := setH (setH (setH hz0 52 1 1) 66 16 (-1)) 0 15 1) rfl ?_
  refine A_newi hM.1 rfl rfl (L := 64) rfl rfl (by decide) (fun j => rfl) rfl (by decide) (rm_le hrm rfl rfl) ?_
  refine A_putr hM.1 rfl rfl rfl rfl (by decide) rfl (Or.inr ⟨rfl, hnm⟩) (by decide) rfl ?_
  exact A_retv hM.1 rfl rfl rfl ⟨rfl, rfl, rfl⟩
set_option maxRecDepth 20000 in
set_option maxHeartbeats 4000000 in
theorem ci_1 {G : Gx} : CT G yX11_init M_X11_init 4 149 30574 (1, rfS 0) hz0 [aR 0] (fun r F' h' => F' = (150, rfS 162) ∧ r = none ∧ h' = setH (setH (setH hz0 52 1 1) 66 16 (-1)) 0 15 1) := by
  refine CT.of (by decide +kernel) rfl (Nat.le_of_ble_eq_true rfl) k_X11_init fun k0 hrm0 hnm0 hM => ?_
  have hrm := KM_room k0 149 30574 (fun r F' h' => F' = (150, rfS 162) ∧ r = none ∧ h' = setH (setH (setH hz0 52 1 1) 66 16 (-1)) 0 15 1) hrm0
  have hnm := KM_name k0 149 30574 (fun r F' h' => F' = (150, rfS 162) ∧ r = none ∧ h' = setH (setH (setH hz0 52 1 1) 66 16 (-1)) 0 15 1) hnm0
  refine A_blk hM.1 1 (lv1 := [some (aR 0), none]) (s1 := [aR 0]) (h1 := hz0) rfl ?_
  refine A_obj hM (by decide) rfl rfl (mem_GW 150 (by decide +kernel) rfl) (by decide) (Nat.le_of_ble_eq_true rfl) ?_
  refine A_blk hM.1 1 (lv1 := [some (aR 0), none]) (s1 := [aR 0]) (h1 := hz0) rfl ?_
  refine A_newo hM.1 rfl rfl (ci := 9) (mem_GW 153 (by decide +kernel) rfl) (mem_GW 154 (by decide +kernel) rfl) (mem_GW 124 (by decide +kernel) rfl) rfl (by decide) (by decide) (fun j => rfS_none (by decide +kernel) j) (fun j => rfl) (rm_le hrm rfl rfl) ?_
  refine A_blk hM.1 1 (lv1 := [some (aR 0), none]) (s1 := [aR 1, aR 1, aR 0]) (h1 := hz0) rfl ?_
  refine A_callIN (host := "QuotedBooks") hM rfl rfl (mem_NW 155 (by decide +kernel) rfl) rfl mi_X9_init in_X9_init rfl (As := []) (rest := [aR 1, aR 0]) ci_2 (by decide) (rm_le hrm rfl rfl) rfl rfl (Nat.le_of_ble_eq_true rfl) (by decide) (fun r F' h' hq1 => ?_)
  obtain ⟨rfl, rfl, rfl⟩ := hq1
  refine A_putr hM.1 rfl rfl rfl rfl (by decide) rfl (Or.inr ⟨rfl, hnm⟩) (by decide) rfl ?_
  refine A_blk hM.1 1 (lv1 := [some (aR 0), none]) (s1 := [aR 0]) (h1 := hz0) rfl ?_
  refine A_newo hM.1 rfl rfl (ci := 7) (mem_GW 167 (by decide +kernel) rfl) (mem_GW 168 (by decide +kernel) rfl) (mem_GW 125 (by decide +kernel) rfl) rfl (by decide) (by decide) (fun j => rfS_none (by decide +kernel) j) (fun j => rfl) (rm_le hrm rfl rfl) ?_
  refine A_blk hM.1 1 (lv1 := [some (aR 0), none]) (s1 := [aR 3, aR 3, aR 0]) (h1 := hz0) rfl ?_
  refine A_callIN (host := "QuotedBooks") hM rfl rfl (mem_NW 169 (by decide +kernel) rfl) rfl mi_X7_init in_X7_init rfl (As := []) (rest := [aR 3, aR 0]) ci_3 (by decide) (rm_le hrm rfl rfl) rfl rfl (Nat.le_of_ble_eq_true rfl) (by decide) (fun r F' h' hq1 => ?_)
  obtain ⟨rfl, rfl, rfl⟩ := hq1
  refine A_putr hM.1 rfl rfl rfl rfl (by decide) rfl (Or.inr ⟨rfl, hnm⟩) (by decide) rfl ?_
  refine A_blk hM.1 1 (lv1 := [some (aR 0), none]) (s1 := [aR 0]) (h1 := hz0) rfl ?_
  refine A_newo hM.1 rfl rfl (ci := 6) (mem_GW 228 (by decide +kernel) rfl) (mem_GW 229 (by decide +kernel) rfl) (mem_GW 126 (by decide +kernel) rfl) rfl (by decide) (by decide) (fun j => rfS_none (by decide +kernel) j) (fun j => rfl) (rm_le hrm rfl rfl) ?_
  refine A_blk hM.1 3 (lv1 := [some (aR 0), none]) (s1 := [aR 1, aR 18, aR 18, aR 0]) (h1 := hz0) rfl ?_
  refine A_callI hM rfl rfl (mem_GW 230 (by decide +kernel) rfl) rfl mi_X6_init in_X6_init rfl (As := [aR 1]) (rest := [aR 18, aR 0]) ci_4 (by decide) (rm_le hrm rfl rfl) rfl rfl (Nat.le_of_ble_eq_true rfl) (by decide) (fun r F' h' hq1 => ?_)
  obtain ⟨rfl, rfl, rfl⟩ := hq1
  refine A_putr hM.1 rfl rfl rfl rfl (by decide) rfl (Or.inr ⟨rfl, hnm⟩) (by decide) rfl ?_
  refine A_blk hM.1 2 (lv1 := [some (aR 0), none]) (s1 := [aI 8, aR 0]) (h1 := hz0) rfl ?_
  refine A_newt hM.1 rfl rfl (L := 8) (mem_GW 290 (by decide +kernel) rfl) rfl rfl (by decide) (fun j => rfS_none (by decide +kernel) j) rfl (by decide) (rm_le hrm rfl rfl) ?_
  refine A_putr hM.1 rfl rfl rfl rfl (by decide) rfl (Or.inr ⟨rfl, hnm⟩) (by decide) rfl ?_
  refine A_blk hM.1 1 (lv1 := [some (aR 0), none]) (s1 := [aR 0]) (h1 := hz0) rfl ?_
  refine A_newo hM.1 rfl rfl (ci := 10) (mem_GW 290 (by decide +kernel) rfl) (mem_GW 235 (by decide +kernel) rfl) (mem_GW 127 (by decide +kernel) rfl) rfl (by decide) (by decide) (fun j => rfS_none (by decide +kernel) j) (fun j => rfl) (rm_le hrm rfl rfl) ?_
  refine A_blk hM.1 1 (lv1 := [some (aR 0), none]) (s1 := [aR 28, aR 28, aR 0]) (h1 := hz0) rfl ?_
  refine A_callIN (host := "QuotedBooks") hM rfl rfl (mem_NW 292 (by decide +kernel) rfl) rfl mi_X10_init in_X10_init rfl (As := []) (rest := [aR 28, aR 0]) ci_6 (by decide) (rm_le hrm rfl rfl) rfl rfl (Nat.le_of_ble_eq_true rfl) (by decide) (fun r F' h' hq1 => ?_)
  obtain ⟨rfl, rfl, rfl⟩ := hq1
  refine A_putr hM.1 rfl rfl rfl rfl (by decide) rfl (Or.inr ⟨rfl, hnm⟩) (by decide) rfl ?_
  refine A_blk hM.1 1 (lv1 := [some (aR 0), none]) (s1 := [aR 0]) (h1 := hz0) rfl ?_
  refine A_newo hM.1 rfl rfl (ci := 10) (mem_GW 290 (by decide +kernel) rfl) (mem_GW 235 (by decide +kernel) rfl) (mem_GW 127 (by decide +kernel) rfl) rfl (by decide) (by decide) (fun j => rfS_none (by decide +kernel) j) (fun j => rfl) (rm_le hrm rfl rfl) ?_
  refine A_blk hM.1 1 (lv1 := [some (aR 0), none]) (s1 := [aR 36, aR 36, aR 0]) (h1 := hz0) rfl ?_
  refine A_callIN (host := "QuotedBooks") hM rfl rfl (mem_NW 292 (by decide +kernel) rfl) rfl mi_X10_init in_X10_init rfl (As := []) (rest := [aR 36, aR 0]) ci_7 (by decide) (rm_le hrm rfl rfl) rfl rfl (Nat.le_of_ble_eq_true rfl) (by decide) (fun r F' h' hq1 => ?_)
  obtain ⟨rfl, rfl, rfl⟩ := hq1
  refine A_putr hM.1 rfl rfl rfl rfl (by decide) rfl (Or.inr ⟨rfl, hnm⟩) (by decide) rfl ?_
  refine A_blk hM.1 1 (lv1 := [some (aR 0), none]) (s1 := [aR 0]) (h1 := hz0) rfl ?_
  refine A_newo hM.1 rfl rfl (ci := 10) (mem_GW 290 (by decide +kernel) rfl) (mem_GW 235 (by decide +kernel) rfl) (mem_GW 127 (by decide +kernel) rfl) rfl (by decide) (by decide) (fun j => rfS_none (by decide +kernel) j) (fun j => rfl) (rm_le hrm rfl rfl) ?_
  refine A_blk hM.1 1 (lv1 := [some (aR 0), none]) (s1 := [aR 44, aR 44, aR 0]) (h1 := hz0) rfl ?_
  refine A_callIN (host := "QuotedBooks") hM rfl rfl (mem_NW 292 (by decide +kernel) rfl) rfl mi_X10_init in_X10_init rfl (As := []) (rest := [aR 44, aR 0]) ci_8 (by decide) (rm_le hrm rfl rfl) rfl rfl (Nat.le_of_ble_eq_true rfl) (by decide) (fun r F' h' hq1 => ?_)
  obtain ⟨rfl, rfl, rfl⟩ := hq1
  refine A_putr hM.1 rfl rfl rfl rfl (by decide) rfl (Or.inr ⟨rfl, hnm⟩) (by decide) rfl ?_
  refine A_blk hM.1 1 (lv1 := [some (aR 0), none]) (s1 := [aR 0]) (h1 := hz0) rfl ?_
  refine A_newo hM.1 rfl rfl (ci := 4) (mem_GW 293 (by decide +kernel) rfl) (mem_GW 294 (by decide +kernel) rfl) (mem_GW 128 (by decide +kernel) rfl) rfl (by decide) (by decide) (fun j => rfS_none (by decide +kernel) j) (fun j => rfl) (rm_le hrm rfl rfl) ?_
  refine A_blk hM.1 1 (lv1 := [some (aR 0), none]) (s1 := [aR 52, aR 52, aR 0]) (h1 := hz0) rfl ?_
  refine A_callIN (host := "QuotedBooks") hM rfl rfl (mem_NW 295 (by decide +kernel) rfl) rfl mi_X4_init in_X4_init rfl (As := []) (rest := [aR 52, aR 0]) ci_9 (by decide) (rm_le hrm rfl rfl) rfl rfl (Nat.le_of_ble_eq_true rfl) (by decide) (fun r F' h' hq1 => ?_)
  obtain ⟨rfl, rfl, rfl⟩ := hq1
  refine A_putr hM.1 rfl rfl rfl rfl (by decide) rfl (Or.inr ⟨rfl, hnm⟩) (by decide) rfl ?_
  refine A_blk hM.1 1 (lv1 := [some (aR 0), none]) (s1 := [aR 0]) (h1 := setH hz0 52 1 1) rfl ?_
  refine A_newo hM.1 rfl rfl (ci := 1) (mem_GW 306 (by decide +kernel) rfl) (mem_GW 307 (by decide +kernel) rfl) (mem_GW 129 (by decide +kernel) rfl) rfl (by decide) (by decide) (fun j => rfS_none (by decide +kernel) j) (fun j => rfl) (rm_le hrm rfl rfl) ?_
  refine A_blk hM.1 3 (lv1 := [some (aR 0), none]) (s1 := [aR 3, aR 53, aR 53, aR 0]) (h1 := setH hz0 52 1 1) rfl ?_
  refine A_callI hM rfl rfl (mem_GW 308 (by decide +kernel) rfl) rfl mi_X1_init in_X1_init rfl (As := [aR 3]) (rest := [aR 53, aR 0]) ci_10 (by decide) (rm_le hrm rfl rfl) rfl rfl (Nat.le_of_ble_eq_true rfl) (by decide) (fun r F' h' hq1 => ?_)
  obtain ⟨rfl, rfl, rfl⟩ := hq1
  refine A_putr hM.1 rfl rfl rfl rfl (by decide) rfl (Or.inr ⟨rfl, hnm⟩) (by decide) rfl ?_
  refine A_blk hM.1 1 (lv1 := [some (aR 0), none]) (s1 := [aR 0]) (h1 := setH hz0 52 1 1) rfl ?_
  refine A_newo hM.1 rfl rfl (ci := 2) (mem_GW 338 (by decide +kernel) rfl) (mem_GW 339 (by decide +kernel) rfl) (mem_GW 130 (by decide +kernel) rfl) rfl (by decide) (by decide) (fun j => rfS_none (by decide +kernel) j) (fun j => rfl) (rm_le hrm rfl rfl) ?_
  refine A_blk hM.1 7 (lv1 := [some (aR 0), none]) (s1 := [aR 52, aR 53, aR 3, aR 61, aR 61, aR 0]) (h1 := setH hz0 52 1 1) rfl ?_
  refine A_callI hM rfl rfl (mem_GW 340 (by decide +kernel) rfl) rfl mi_X2_init in_X2_init rfl (As := [aR 3, aR 53, aR 52]) (rest := [aR 61, aR 0]) ci_11 (by decide) (rm_le hrm rfl rfl) rfl rfl (Nat.le_of_ble_eq_true rfl) (by decide) (fun r F' h' hq1 => ?_)
  obtain ⟨rfl, rfl, rfl⟩ := hq1
  refine A_putr hM.1 rfl rfl rfl rfl (by decide) rfl (Or.inr ⟨rfl, hnm⟩) (by decide) rfl ?_
  refine A_blk hM.1 1 (lv1 := [some (aR 0), none]) (s1 := [aR 0]) (h1 := setH hz0 52 1 1) rfl ?_
  refine A_newo hM.1 rfl rfl (ci := 5) (mem_GW 397 (by decide +kernel) rfl) (mem_GW 398 (by decide +kernel) rfl) (mem_GW 132 (by decide +kernel) rfl) rfl (by decide) (by decide) (fun j => rfS_none (by decide +kernel) j) (fun j => rfl) (rm_le hrm rfl rfl) ?_
  refine A_blk hM.1 5 (lv1 := [some (aR 0), none]) (s1 := [aR 28, aR 3, aR 66, aR 66, aR 0]) (h1 := setH hz0 52 1 1) rfl ?_
  refine A_callI hM rfl rfl (mem_GW 399 (by decide +kernel) rfl) rfl mi_X5_init in_X5_init rfl (As := [aR 3, aR 28]) (rest := [aR 66, aR 0]) ci_14 (by decide) (rm_le hrm rfl rfl) rfl rfl (Nat.le_of_ble_eq_true rfl) (by decide) (fun r F' h' hq1 => ?_)
  obtain ⟨rfl, rfl, rfl⟩ := hq1
  refine A_putr hM.1 rfl rfl rfl rfl (by decide) rfl (Or.inr ⟨rfl, hnm⟩) (by decide) rfl ?_
  refine A_blk hM.1 1 (lv1 := [some (aR 0), none]) (s1 := [aR 0]) (h1 := setH (setH hz0 52 1 1) 66 16 (-1)) rfl ?_
  refine A_newo hM.1 rfl rfl (ci := 0) (mem_GW 458 (by decide +kernel) rfl) (mem_GW 459 (by decide +kernel) rfl) (mem_GW 133 (by decide +kernel) rfl) rfl (by decide) (by decide) (fun j => rfS_none (by decide +kernel) j) (fun j => rfl) (rm_le hrm rfl rfl) ?_
  refine A_blk hM.1 5 (lv1 := [some (aR 0), none]) (s1 := [aR 36, aR 3, aR 77, aR 77, aR 0]) (h1 := setH (setH hz0 52 1 1) 66 16 (-1)) rfl ?_
  refine A_callI hM rfl rfl (mem_GW 460 (by decide +kernel) rfl) rfl mi_X0_init in_X0_init rfl (As := [aR 3, aR 36]) (rest := [aR 77, aR 0]) ci_15 (by decide) (rm_le hrm rfl rfl) rfl rfl (Nat.le_of_ble_eq_true rfl) (by decide) (fun r F' h' hq1 => ?_)
  obtain ⟨rfl, rfl, rfl⟩ := hq1
  refine A_putr hM.1 rfl rfl rfl rfl (by decide) rfl (Or.inr ⟨rfl, hnm⟩) (by decide) rfl ?_
  refine A_blk hM.1 1 (lv1 := [some (aR 0), none]) (s1 := [aR 0]) (h1 := setH (setH hz0 52 1 1) 66 16 (-1)) rfl ?_
  refine A_newo hM.1 rfl rfl (ci := 3) (mem_GW 501 (by decide +kernel) rfl) (mem_GW 502 (by decide +kernel) rfl) (mem_GW 134 (by decide +kernel) rfl) rfl (by decide) (by decide) (fun j => rfS_none (by decide +kernel) j) (fun j => rfl) (rm_le hrm rfl rfl) ?_
  refine A_blk hM.1 3 (lv1 := [some (aR 0), none]) (s1 := [aR 3, aR 81, aR 81, aR 0]) (h1 := setH (setH hz0 52 1 1) 66 16 (-1)) rfl ?_
  refine A_callI hM rfl rfl (mem_GW 503 (by decide +kernel) rfl) rfl mi_X3_init in_X3_init rfl (As := [aR 3]) (rest := [aR 81, aR 0]) ci_16 (by decide) (rm_le hrm rfl rfl) rfl rfl (Nat.le_of_ble_eq_true rfl) (by decide) (fun r F' h' hq1 => ?_)
  obtain ⟨rfl, rfl, rfl⟩ := hq1
  refine A_putr hM.1 rfl rfl rfl rfl (by decide) rfl (Or.inr ⟨rfl, hnm⟩) (by decide) rfl ?_
  refine A_blk hM.1 2 (lv1 := [some (aR 0), none]) (s1 := [aI 8, aR 0]) (h1 := setH (setH hz0 52 1 1) 66 16 (-1)) rfl ?_
  refine A_newi hM.1 rfl rfl (L := 8) rfl rfl (by decide) (fun j => rfl) rfl (by decide) (rm_le hrm rfl rfl) ?_
  refine A_putr hM.1 rfl rfl rfl rfl (by decide) rfl (Or.inr ⟨rfl, hnm⟩) (by decide) rfl ?_
  refine A_blk hM.1 7 (lv1 := [some (aR 0), some (aI 0)]) (s1 := [aI 8, aI 0]) (h1 := setH (setH (setH hz0 52 1 1) 66 16 (-1)) 0 15 1) rfl ?_
  refine A_icmp hM.1 rfl rfl (fun (hc : w32 8 ≤ w32 0) => absurd hc (by decide +kernel)) (fun hc => ?_)
  refine A_blk hM.1 3 (lv1 := [some (aR 0), some (aI 0)]) (s1 := [aI 0, aR 27]) (h1 := setH (setH (setH hz0 52 1 1) 66 16 (-1)) 0 15 1) rfl ?_
  refine A_newo hM.1 rfl rfl (ci := 10) (mem_GW 290 (by decide +kernel) rfl) (mem_GW 235 (by decide +kernel) rfl) (mem_GW 127 (by decide +kernel) rfl) rfl (by decide) (by decide) (fun j => rfS_none (by decide +kernel) j) (fun j => rfl) (rm_le hrm rfl rfl) ?_
  refine A_blk hM.1 1 (lv1 := [some (aR 0), some (aI 0)]) (s1 := [aR 86, aR 86, aI 0, aR 27]) (h1 := setH (setH (setH hz0 52 1 1) 66 16 (-1)) 0 15 1) rfl ?_
  refine A_callIN (host := "QuotedBooks") hM rfl rfl (mem_NW 292 (by decide +kernel) rfl) rfl mi_X10_init in_X10_init rfl (As := []) (rest := [aR 86, aI 0, aR 27]) ci_17 (by decide) (rm_le hrm rfl rfl) rfl rfl (Nat.le_of_ble_eq_true rfl) (by decide) (fun r F' h' hq1 => ?_)
  obtain ⟨rfl, rfl, rfl⟩ := hq1
  refine A_astt hM.1 rfl rfl rfl rfl (by decide) rfl (by decide) (j := 0) rfl (by decide) rfl ?_
  refine A_blk hM.1 1 (lv1 := [some (aR 0), some (aI 1)]) (s1 := []) (h1 := setH (setH (setH hz0 52 1 1) 66 16 (-1)) 0 15 1) rfl ?_
  refine A_go hM.1 rfl rfl ?_
  refine A_blk hM.1 2 (lv1 := [some (aR 0), some (aI 1)]) (s1 := [aI 8, aI 1]) (h1 := setH (setH (setH hz0 52 1 1) 66 16 (-1)) 0 15 1) rfl ?_
  refine A_icmp hM.1 rfl rfl (fun (hc : w32 8 ≤ w32 1) => absurd hc (by decide +kernel)) (fun hc => ?_)
  refine A_blk hM.1 3 (lv1 := [some (aR 0), some (aI 1)]) (s1 := [aI 1, aR 27]) (h1 := setH (setH (setH hz0 52 1 1) 66 16 (-1)) 0 15 1) rfl ?_
  refine A_newo hM.1 rfl rfl (ci := 10) (mem_GW 290 (by decide +kernel) rfl) (mem_GW 235 (by decide +kernel) rfl) (mem_GW 127 (by decide +kernel) rfl) rfl (by decide) (by decide) (fun j => rfS_none (by decide +kernel) j) (fun j => rfl) (rm_le hrm rfl rfl) ?_
  refine A_blk hM.1 1 (lv1 := [some (aR 0), some (aI 1)]) (s1 := [aR 94, aR 94, aI 1, aR 27]) (h1 := setH (setH (setH hz0 52 1 1) 66 16 (-1)) 0 15 1) rfl ?_
  refine A_callIN (host := "QuotedBooks") hM rfl rfl (mem_NW 292 (by decide +kernel) rfl) rfl mi_X10_init in_X10_init rfl (As := []) (rest := [aR 94, aI 1, aR 27]) ci_18 (by decide) (rm_le hrm rfl rfl) rfl rfl (Nat.le_of_ble_eq_true rfl) (by decide) (fun r F' h' hq1 => ?_)
  obtain ⟨rfl, rfl, rfl⟩ := hq1
  refine A_astt hM.1 rfl rfl rfl rfl (by decide) rfl (by decide) (j := 1) rfl (by decide) rfl ?_
  refine A_blk hM.1 1 (lv1 := [some (aR 0), some (aI 2)]) (s1 := []) (h1 := setH (setH (setH hz0 52 1 1) 66 16 (-1)) 0 15 1) rfl ?_
  refine A_go hM.1 rfl rfl ?_
  refine A_blk hM.1 2 (lv1 := [some (aR 0), some (aI 2)]) (s1 := [aI 8, aI 2]) (h1 := setH (setH (setH hz0 52 1 1) 66 16 (-1)) 0 15 1) rfl ?_
  refine A_icmp hM.1 rfl rfl (fun (hc : w32 8 ≤ w32 2) => absurd hc (by decide +kernel)) (fun hc => ?_)
  refine A_blk hM.1 3 (lv1 := [some (aR 0), some (aI 2)]) (s1 := [aI 2, aR 27]) (h1 := setH (setH (setH hz0 52 1 1) 66 16 (-1)) 0 15 1) rfl ?_
  refine A_newo hM.1 rfl rfl (ci := 10) (mem_GW 290 (by decide +kernel) rfl) (mem_GW 235 (by decide +kernel) rfl) (mem_GW 127 (by decide +kernel) rfl) rfl (by decide) (by decide) (fun j => rfS_none (by decide +kernel) j) (fun j => rfl) (rm_le hrm rfl rfl) ?_
  refine A_blk hM.1 1 (lv1 := [some (aR 0), some (aI 2)]) (s1 := [aR 102, aR 102, aI 2, aR 27]) (h1 := setH (setH (setH hz0 52 1 1) 66 16 (-1)) 0 15 1) rfl ?_
  refine A_callIN (host := "QuotedBooks") hM rfl rfl (mem_NW 292 (by decide +kernel) rfl) rfl mi_X10_init in_X10_init rfl (As := []) (rest := [aR 102, aI 2, aR 27]) ci_19 (by decide) (rm_le hrm rfl rfl) rfl rfl (Nat.le_of_ble_eq_true rfl) (by decide) (fun r F' h' hq1 => ?_)
  obtain ⟨rfl, rfl, rfl⟩ := hq1
  refine A_astt hM.1 rfl rfl rfl rfl (by decide) rfl (by decide) (j := 2) rfl (by decide) rfl ?_
  refine A_blk hM.1 1 (lv1 := [some (aR 0), some (aI 3)]) (s1 := []) (h1 := setH (setH (setH hz0 52 1 1) 66 16 (-1)) 0 15 1) rfl ?_
  refine A_go hM.1 rfl rfl ?_
  refine A_blk hM.1 2 (lv1 := [some (aR 0), some (aI 3)]) (s1 := [aI 8, aI 3]) (h1 := setH (setH (setH hz0 52 1 1) 66 16 (-1)) 0 15 1) rfl ?_
  refine A_icmp hM.1 rfl rfl (fun (hc : w32 8 ≤ w32 3) => absurd hc (by decide +kernel)) (fun hc => ?_)
  refine A_blk hM.1 3 (lv1 := [some (aR 0), some (aI 3)]) (s1 := [aI 3, aR 27]) (h1 := setH (setH (setH hz0 52 1 1) 66 16 (-1)) 0 15 1) rfl ?_
  refine A_newo hM.1 rfl rfl (ci := 10) (mem_GW 290 (by decide +kernel) rfl) (mem_GW 235 (by decide +kernel) rfl) (mem_GW 127 (by decide +kernel) rfl) rfl (by decide) (by decide) (fun j => rfS_none (by decide +kernel) j) (fun j => rfl) (rm_le hrm rfl rfl) ?_
  refine A_blk hM.1 1 (lv1 := [some (aR 0), some (aI 3)]) (s1 := [aR 110, aR 110, aI 3, aR 27]) (h1 := setH (setH (setH hz0 52 1 1) 66 16 (-1)) 0 15 1) rfl ?_
  refine A_callIN (host := "QuotedBooks") hM rfl rfl (mem_NW 292 (by decide +kernel) rfl) rfl mi_X10_init in_X10_init rfl (As := []) (rest := [aR 110, aI 3, aR 27]) ci_20 (by decide) (rm_le hrm rfl rfl) rfl rfl (Nat.le_of_ble_eq_true rfl) (by decide) (fun r F' h' hq1 => ?_)
  obtain ⟨rfl, rfl, rfl⟩ := hq1
  refine A_astt hM.1 rfl rfl rfl rfl (by decide) rfl (by decide) (j := 3) rfl (by decide) rfl ?_
  refine A_blk hM.1 1 (lv1 := [some (aR 0), some (aI 4)]) (s1 := []) (h1 := setH (setH (setH hz0 52 1 1) 66 16 (-1)) 0 15 1) rfl ?_
  refine A_go hM.1 rfl rfl ?_
  refine A_blk hM.1 2 (lv1 := [some (aR 0), some (aI 4)]) (s1 := [aI 8, aI 4]) (h1 := setH (setH (setH hz0 52 1 1) 66 16 (-1)) 0 15 1) rfl ?_
  refine A_icmp hM.1 rfl rfl (fun (hc : w32 8 ≤ w32 4) => absurd hc (by decide +kernel)) (fun hc => ?_)
  refine A_blk hM.1 3 (lv1 := [some (aR 0), some (aI 4)]) (s1 := [aI 4, aR 27]) (h1 := setH (setH (setH hz0 52 1 1) 66 16 (-1)) 0 15 1) rfl ?_
  refine A_newo hM.1 rfl rfl (ci := 10) (mem_GW 290 (by decide +kernel) rfl) (mem_GW 235 (by decide +kernel) rfl) (mem_GW 127 (by decide +kernel) rfl) rfl (by decide) (by decide) (fun j => rfS_none (by decide +kernel) j) (fun j => rfl) (rm_le hrm rfl rfl) ?_
  refine A_blk hM.1 1 (lv1 := [some (aR 0), some (aI 4)]) (s1 := [aR 118, aR 118, aI 4, aR 27]) (h1 := setH (setH (setH hz0 52 1 1) 66 16 (-1)) 0 15 1) rfl ?_
  refine A_callIN (host := "QuotedBooks") hM rfl rfl (mem_NW 292 (by decide +kernel) rfl) rfl mi_X10_init in_X10_init rfl (As := []) (rest := [aR 118, aI 4, aR 27]) ci_21 (by decide) (rm_le hrm rfl rfl) rfl rfl (Nat.le_of_ble_eq_true rfl) (by decide) (fun r F' h' hq1 => ?_)
  obtain ⟨rfl, rfl, rfl⟩ := hq1
  refine A_astt hM.1 rfl rfl rfl rfl (by decide) rfl (by decide) (j := 4) rfl (by decide) rfl ?_
  refine A_blk hM.1 1 (lv1 := [some (aR 0), some (aI 5)]) (s1 := []) (h1 := setH (setH (setH hz0 52 1 1) 66 16 (-1)) 0 15 1) rfl ?_
  refine A_go hM.1 rfl rfl ?_
  refine A_blk hM.1 2 (lv1 := [some (aR 0), some (aI 5)]) (s1 := [aI 8, aI 5]) (h1 := setH (setH (setH hz0 52 1 1) 66 16 (-1)) 0 15 1) rfl ?_
  refine A_icmp hM.1 rfl rfl (fun (hc : w32 8 ≤ w32 5) => absurd hc (by decide +kernel)) (fun hc => ?_)
  refine A_blk hM.1 3 (lv1 := [some (aR 0), some (aI 5)]) (s1 := [aI 5, aR 27]) (h1 := setH (setH (setH hz0 52 1 1) 66 16 (-1)) 0 15 1) rfl ?_
  refine A_newo hM.1 rfl rfl (ci := 10) (mem_GW 290 (by decide +kernel) rfl) (mem_GW 235 (by decide +kernel) rfl) (mem_GW 127 (by decide +kernel) rfl) rfl (by decide) (by decide) (fun j => rfS_none (by decide +kernel) j) (fun j => rfl) (rm_le hrm rfl rfl) ?_
  refine A_blk hM.1 1 (lv1 := [some (aR 0), some (aI 5)]) (s1 := [aR 126, aR 126, aI 5, aR 27]) (h1 := setH (setH (setH hz0 52 1 1) 66 16 (-1)) 0 15 1) rfl ?_
  refine A_callIN (host := "QuotedBooks") hM rfl rfl (mem_NW 292 (by decide +kernel) rfl) rfl mi_X10_init in_X10_init rfl (As := []) (rest := [aR 126, aI 5, aR 27]) ci_22 (by decide) (rm_le hrm rfl rfl) rfl rfl (Nat.le_of_ble_eq_true rfl) (by decide) (fun r F' h' hq1 => ?_)
  obtain ⟨rfl, rfl, rfl⟩ := hq1
  refine A_astt hM.1 rfl rfl rfl rfl (by decide) rfl (by decide) (j := 5) rfl (by decide) rfl ?_
  refine A_blk hM.1 1 (lv1 := [some (aR 0), some (aI 6)]) (s1 := []) (h1 := setH (setH (setH hz0 52 1 1) 66 16 (-1)) 0 15 1) rfl ?_
  refine A_go hM.1 rfl rfl ?_
  refine A_blk hM.1 2 (lv1 := [some (aR 0), some (aI 6)]) (s1 := [aI 8, aI 6]) (h1 := setH (setH (setH hz0 52 1 1) 66 16 (-1)) 0 15 1) rfl ?_
  refine A_icmp hM.1 rfl rfl (fun (hc : w32 8 ≤ w32 6) => absurd hc (by decide +kernel)) (fun hc => ?_)
  refine A_blk hM.1 3 (lv1 := [some (aR 0), some (aI 6)]) (s1 := [aI 6, aR 27]) (h1 := setH (setH (setH hz0 52 1 1) 66 16 (-1)) 0 15 1) rfl ?_
  refine A_newo hM.1 rfl rfl (ci := 10) (mem_GW 290 (by decide +kernel) rfl) (mem_GW 235 (by decide +kernel) rfl) (mem_GW 127 (by decide +kernel) rfl) rfl (by decide) (by decide) (fun j => rfS_none (by decide +kernel) j) (fun j => rfl) (rm_le hrm rfl rfl) ?_
  refine A_blk hM.1 1 (lv1 := [some (aR 0), some (aI 6)]) (s1 := [aR 134, aR 134, aI 6, aR 27]) (h1 := setH (setH (setH hz0 52 1 1) 66 16 (-1)) 0 15 1) rfl ?_
  refine A_callIN (host := "QuotedBooks") hM rfl rfl (mem_NW 292 (by decide +kernel) rfl) rfl mi_X10_init in_X10_init rfl (As := []) (rest := [aR 134, aI 6, aR 27]) ci_23 (by decide) (rm_le hrm rfl rfl) rfl rfl (Nat.le_of_ble_eq_true rfl) (by decide) (fun r F' h' hq1 => ?_)
  obtain ⟨rfl, rfl, rfl⟩ := hq1
  refine A_astt hM.1 rfl rfl rfl rfl (by decide) rfl (by decide) (j := 6) rfl (by decide) rfl ?_
  refine A_blk hM.1 1 (lv1 := [some (aR 0), some (aI 7)]) (s1 := []) (h1 := setH (setH (setH hz0 52 1 1) 66 16 (-1)) 0 15 1) rfl ?_
  refine A_go hM.1 rfl rfl ?_
  refine A_blk hM.1 2 (lv1 := [some (aR 0), some (aI 7)]) (s1 := [aI 8, aI 7]) (h1 := setH (setH (setH hz0 52 1 1) 66 16 (-1)) 0 15 1) rfl ?_
  refine A_icmp hM.1 rfl rfl (fun (hc : w32 8 ≤ w32 7) => absurd hc (by decide +kernel)) (fun hc => ?_)
  refine A_blk hM.1 3 (lv1 := [some (aR 0), some (aI 7)]) (s1 := [aI 7, aR 27]) (h1 := setH (setH (setH hz0 52 1 1) 66 16 (-1)) 0 15 1) rfl ?_
  refine A_newo hM.1 rfl rfl (ci := 10) (mem_GW 290 (by decide +kernel) rfl) (mem_GW 235 (by decide +kernel) rfl) (mem_GW 127 (by decide +kernel) rfl) rfl (by decide) (by decide) (fun j => rfS_none (by decide +kernel) j) (fun j => rfl) (rm_le hrm rfl rfl) ?_
  refine A_blk hM.1 1 (lv1 := [some (aR 0), some (aI 7)]) (s1 := [aR 142, aR 142, aI 7, aR 27]) (h1 := setH (setH (setH hz0 52 1 1) 66 16 (-1)) 0 15 1) rfl ?_
  refine A_callIN (host := "QuotedBooks") hM rfl rfl (mem_NW 292 (by decide +kernel) rfl) rfl mi_X10_init in_X10_init rfl (As := []) (rest := [aR 142, aI 7, aR 27]) ci_24 (by decide) (rm_le hrm rfl rfl) rfl rfl (Nat.le_of_ble_eq_true rfl) (by decide) (fun r F' h' hq1 => ?_)
  obtain ⟨rfl, rfl, rfl⟩ := hq1
  refine A_astt hM.1 rfl rfl rfl rfl (by decide) rfl (by decide) (j := 7) rfl (by decide) rfl ?_
  refine A_blk hM.1 1 (lv1 := [some (aR 0), some (aI 8)]) (s1 := []) (h1 := setH (setH (setH hz0 52 1 1) 66 16 (-1)) 0 15 1) rfl ?_
  refine A_go hM.1 rfl rfl ?_
  refine A_blk hM.1 2 (lv1 := [some (aR 0), some (aI 8)]) (s1 := [aI 8, aI 8]) (h1 := setH (setH (setH hz0 52 1 1) 66 16 (-1)) 0 15 1) rfl ?_
  refine A_icmp hM.1 rfl rfl (fun hc => ?_) (fun (hc : ¬ (w32 8 ≤ w32 8)) => absurd (by decide +kernel) hc)
  exact A_retv hM.1 rfl rfl rfl ⟨rfl, rfl, rfl⟩
set_option maxRecDepth 20000 in
set_option maxHeartbeats 4000000 in
theorem ci_25 {G : Gx} : CT G yX12_init M_X12_init 2 48 28281 (151, rfS 162) (setH (setH (setH hz0 52 1 1) 66 16 (-1)) 0 15 1) [aR 150] (fun r F' h' => F' = (199, rfS 210) ∧ r = none ∧ h' = setH (setH (setH (setH hz0 52 1 1) 66 16 (-1)) 0 15 1) 150 6 1) := by
  refine CT.of (by decide +kernel) rfl (Nat.le_of_ble_eq_true rfl) k_X12_init fun k0 hrm0 hnm0 hM => ?_
  have hrm := KM_room k0 48 28281 (fun r F' h' => F' = (199, rfS 210) ∧ r = none ∧ h' = setH (setH (setH (setH hz0 52 1 1) 66 16 (-1)) 0 15 1) 150 6 1) hrm0
  have hnm := KM_name k0 48 28281 (fun r F' h' => F' = (199, rfS 210) ∧ r = none ∧ h' = setH (setH (setH (setH hz0 52 1 1) 66 16 (-1)) 0 15 1) 150 6 1) hnm0
  refine A_blk hM.1 1 (lv1 := [some (aR 150)]) (s1 := [aR 150]) (h1 := setH (setH (setH hz0 52 1 1) 66 16 (-1)) 0 15 1) rfl ?_
  refine A_obj hM (by decide) rfl rfl (mem_GW 1595 (by decide +kernel) rfl) (by decide) (Nat.le_of_ble_eq_true rfl) ?_
  refine A_blk hM.1 2 (lv1 := [some (aR 150)]) (s1 := [aI 200, aR 150]) (h1 := setH (setH (setH hz0 52 1 1) 66 16 (-1)) 0 15 1) rfl ?_
  refine A_newb hM.1 rfl rfl (L := 200) rfl rfl (by decide) (fun j => rfl) rfl (by decide) (rm_le hrm rfl rfl) ?_
  refine A_putr hM.1 rfl rfl rfl rfl (by decide) rfl (Or.inr ⟨rfl, hnm⟩) (by decide) rfl ?_
  refine A_blk hM.1 5 (lv1 := [some (aR 150)]) (s1 := [aI 8, aR 150]) (h1 := setH (setH (setH (setH hz0 52 1 1) 66 16 (-1)) 0 15 1) 150 6 1) rfl ?_
  refine A_newi hM.1 rfl rfl (L := 8) rfl rfl (by decide) (fun j => rfl) rfl (by decide) (rm_le hrm rfl rfl) ?_
  refine A_putr hM.1 rfl rfl rfl rfl (by decide) rfl (Or.inr ⟨rfl, hnm⟩) (by decide) rfl ?_
  refine A_blk hM.1 2 (lv1 := [some (aR 150)]) (s1 := [aI 8, aR 150]) (h1 := setH (setH (setH (setH hz0 52 1 1) 66 16 (-1)) 0 15 1) 150 6 1) rfl ?_
  refine A_newi hM.1 rfl rfl (L := 8) rfl rfl (by decide) (fun j => rfl) rfl (by decide) (rm_le hrm rfl rfl) ?_
  refine A_putr hM.1 rfl rfl rfl rfl (by decide) rfl (Or.inr ⟨rfl, hnm⟩) (by decide) rfl ?_
  refine A_blk hM.1 2 (lv1 := [some (aR 150)]) (s1 := [aI 8, aR 150]) (h1 := setH (setH (setH (setH hz0 52 1 1) 66 16 (-1)) 0 15 1) 150 6 1) rfl ?_
  refine A_newi hM.1 rfl rfl (L := 8) rfl rfl (by decide) (fun j => rfl) rfl (by decide) (rm_le hrm rfl rfl) ?_
  refine A_putr hM.1 rfl rfl rfl rfl (by decide) rfl (Or.inr ⟨rfl, hnm⟩) (by decide) rfl ?_
  refine A_blk hM.1 2 (lv1 := [some (aR 150)]) (s1 := [aI 8, aR 150]) (h1 := setH (setH (setH (setH hz0 52 1 1) 66 16 (-1)) 0 15 1) 150 6 1) rfl ?_
  refine A_newi hM.1 rfl rfl (L := 8) rfl rfl (by decide) (fun j => rfl) rfl (by decide) (rm_le hrm rfl rfl) ?_
  refine A_putr hM.1 rfl rfl rfl rfl (by decide) rfl (Or.inr ⟨rfl, hnm⟩) (by decide) rfl ?_
  refine A_blk hM.1 2 (lv1 := [some (aR 150)]) (s1 := [aI 8, aR 150]) (h1 := setH (setH (setH (setH hz0 52 1 1) 66 16 (-1)) 0 15 1) 150 6 1) rfl ?_
  refine A_newi hM.1 rfl rfl (L := 8) rfl rfl (by decide) (fun j => rfl) rfl (by decide) (rm_le hrm rfl rfl) ?_
  refine A_putr hM.1 rfl rfl rfl rfl (by decide) rfl (Or.inr ⟨rfl, hnm⟩) (by decide) rfl ?_
  refine A_blk hM.1 2 (lv1 := [some (aR 150)]) (s1 := [aI 320, aR 150]) (h1 := setH (setH (setH (setH hz0 52 1 1) 66 16 (-1)) 0 15 1) 150 6 1) rfl ?_
  refine A_newi hM.1 rfl rfl (L := 320) rfl rfl (by decide) (fun j => rfl) rfl (by decide) (rm_le hrm rfl rfl) ?_
  refine A_putr hM.1 rfl rfl rfl rfl (by decide) rfl (Or.inr ⟨rfl, hnm⟩) (by decide) rfl ?_
  refine A_blk hM.1 2 (lv1 := [some (aR 150)]) (s1 := [aI 320, aR 150]) (h1 := setH (setH (setH (setH hz0 52 1 1) 66 16 (-1)) 0 15 1) 150 6 1) rfl ?_
  refine A_newi hM.1 rfl rfl (L := 320) rfl rfl (by decide) (fun j => rfl) rfl (by decide) (rm_le hrm rfl rfl) ?_
  refine A_putr hM.1 rfl rfl rfl rfl (by decide) rfl (Or.inr ⟨rfl, hnm⟩) (by decide) rfl ?_
  refine A_blk hM.1 2 (lv1 := [some (aR 150)]) (s1 := [aI 8, aR 150]) (h1 := setH (setH (setH (setH hz0 52 1 1) 66 16 (-1)) 0 15 1) 150 6 1) rfl ?_
  refine A_newi hM.1 rfl rfl (L := 8) rfl rfl (by decide) (fun j => rfl) rfl (by decide) (rm_le hrm rfl rfl) ?_
  refine A_putr hM.1 rfl rfl rfl rfl (by decide) rfl (Or.inr ⟨rfl, hnm⟩) (by decide) rfl ?_
  refine A_blk hM.1 2 (lv1 := [some (aR 150)]) (s1 := [aI 40, aR 150]) (h1 := setH (setH (setH (setH hz0 52 1 1) 66 16 (-1)) 0 15 1) 150 6 1) rfl ?_
  refine A_newi hM.1 rfl rfl (L := 40) rfl rfl (by decide) (fun j => rfl) rfl (by decide) (rm_le hrm rfl rfl) ?_
  refine A_putr hM.1 rfl rfl rfl rfl (by decide) rfl (Or.inr ⟨rfl, hnm⟩) (by decide) rfl ?_
  refine A_blk hM.1 2 (lv1 := [some (aR 150)]) (s1 := [aI 40, aR 150]) (h1 := setH (setH (setH (setH hz0 52 1 1) 66 16 (-1)) 0 15 1) 150 6 1) rfl ?_
  refine A_newi hM.1 rfl rfl (L := 40) rfl rfl (by decide) (fun j => rfl) rfl (by decide) (rm_le hrm rfl rfl) ?_
  refine A_putr hM.1 rfl rfl rfl rfl (by decide) rfl (Or.inr ⟨rfl, hnm⟩) (by decide) rfl ?_
  refine A_blk hM.1 2 (lv1 := [some (aR 150)]) (s1 := [aI 40, aR 150]) (h1 := setH (setH (setH (setH hz0 52 1 1) 66 16 (-1)) 0 15 1) 150 6 1) rfl ?_
  refine A_newi hM.1 rfl rfl (L := 40) rfl rfl (by decide) (fun j => rfl) rfl (by decide) (rm_le hrm rfl rfl) ?_
  refine A_putr hM.1 rfl rfl rfl rfl (by decide) rfl (Or.inr ⟨rfl, hnm⟩) (by decide) rfl ?_
  refine A_blk hM.1 2 (lv1 := [some (aR 150)]) (s1 := [aI 40, aR 150]) (h1 := setH (setH (setH (setH hz0 52 1 1) 66 16 (-1)) 0 15 1) 150 6 1) rfl ?_
  refine A_newi hM.1 rfl rfl (L := 40) rfl rfl (by decide) (fun j => rfl) rfl (by decide) (rm_le hrm rfl rfl) ?_
  refine A_putr hM.1 rfl rfl rfl rfl (by decide) rfl (Or.inr ⟨rfl, hnm⟩) (by decide) rfl ?_
  refine A_blk hM.1 2 (lv1 := [some (aR 150)]) (s1 := [aI 40, aR 150]) (h1 := setH (setH (setH (setH hz0 52 1 1) 66 16 (-1)) 0 15 1) 150 6 1) rfl ?_
  refine A_newi hM.1 rfl rfl (L := 40) rfl rfl (by decide) (fun j => rfl) rfl (by decide) (rm_le hrm rfl rfl) ?_
  refine A_putr hM.1 rfl rfl rfl rfl (by decide) rfl (Or.inr ⟨rfl, hnm⟩) (by decide) rfl ?_
  refine A_blk hM.1 2 (lv1 := [some (aR 150)]) (s1 := [aI 320, aR 150]) (h1 := setH (setH (setH (setH hz0 52 1 1) 66 16 (-1)) 0 15 1) 150 6 1) rfl ?_
  refine A_newi hM.1 rfl rfl (L := 320) rfl rfl (by decide) (fun j => rfl) rfl (by decide) (rm_le hrm rfl rfl) ?_
  refine A_putr hM.1 rfl rfl rfl rfl (by decide) rfl (Or.inr ⟨rfl, hnm⟩) (by decide) rfl ?_
  refine A_blk hM.1 2 (lv1 := [some (aR 150)]) (s1 := [aI 11, aR 150]) (h1 := setH (setH (setH (setH hz0 52 1 1) 66 16 (-1)) 0 15 1) 150 6 1) rfl ?_
  refine A_newi hM.1 rfl rfl (L := 11) rfl rfl (by decide) (fun j => rfl) rfl (by decide) (rm_le hrm rfl rfl) ?_
  refine A_putr hM.1 rfl rfl rfl rfl (by decide) rfl (Or.inr ⟨rfl, hnm⟩) (by decide) rfl ?_
  refine A_blk hM.1 2 (lv1 := [some (aR 150)]) (s1 := [aI 132, aR 150]) (h1 := setH (setH (setH (setH hz0 52 1 1) 66 16 (-1)) 0 15 1) 150 6 1) rfl ?_
  refine A_newi hM.1 rfl rfl (L := 132) rfl rfl (by decide) (fun j => rfl) rfl (by decide) (rm_le hrm rfl rfl) ?_
  refine A_putr hM.1 rfl rfl rfl rfl (by decide) rfl (Or.inr ⟨rfl, hnm⟩) (by decide) rfl ?_
  refine A_blk hM.1 2 (lv1 := [some (aR 150)]) (s1 := [aI 132, aR 150]) (h1 := setH (setH (setH (setH hz0 52 1 1) 66 16 (-1)) 0 15 1) 150 6 1) rfl ?_
  refine A_newi hM.1 rfl rfl (L := 132) rfl rfl (by decide) (fun j => rfl) rfl (by decide) (rm_le hrm rfl rfl) ?_
  refine A_putr hM.1 rfl rfl rfl rfl (by decide) rfl (Or.inr ⟨rfl, hnm⟩) (by decide) rfl ?_
  refine A_blk hM.1 2 (lv1 := [some (aR 150)]) (s1 := [aI 132, aR 150]) (h1 := setH (setH (setH (setH hz0 52 1 1) 66 16 (-1)) 0 15 1) 150 6 1) rfl ?_
  refine A_newi hM.1 rfl rfl (L := 132) rfl rfl (by decide) (fun j => rfl) rfl (by decide) (rm_le hrm rfl rfl) ?_
  refine A_putr hM.1 rfl rfl rfl rfl (by decide) rfl (Or.inr ⟨rfl, hnm⟩) (by decide) rfl ?_
  refine A_blk hM.1 2 (lv1 := [some (aR 150)]) (s1 := [aI 132, aR 150]) (h1 := setH (setH (setH (setH hz0 52 1 1) 66 16 (-1)) 0 15 1) 150 6 1) rfl ?_
  refine A_newi hM.1 rfl rfl (L := 132) rfl rfl (by decide) (fun j => rfl) rfl (by decide) (rm_le hrm rfl rfl) ?_
  refine A_putr hM.1 rfl rfl rfl rfl (by decide) rfl (Or.inr ⟨rfl, hnm⟩) (by decide) rfl ?_
  refine A_blk hM.1 2 (lv1 := [some (aR 150)]) (s1 := [aI 1760, aR 150]) (h1 := setH (setH (setH (setH hz0 52 1 1) 66 16 (-1)) 0 15 1) 150 6 1) rfl ?_
  refine A_newi hM.1 rfl rfl (L := 1760) rfl rfl (by decide) (fun j => rfl) rfl (by decide) (rm_le hrm rfl rfl) ?_
  refine A_putr hM.1 rfl rfl rfl rfl (by decide) rfl (Or.inr ⟨rfl, hnm⟩) (by decide) rfl ?_
  refine A_blk hM.1 2 (lv1 := [some (aR 150)]) (s1 := [aI 1760, aR 150]) (h1 := setH (setH (setH (setH hz0 52 1 1) 66 16 (-1)) 0 15 1) 150 6 1) rfl ?_
  refine A_newi hM.1 rfl rfl (L := 1760) rfl rfl (by decide) (fun j => rfl) rfl (by decide) (rm_le hrm rfl rfl) ?_
  refine A_putr hM.1 rfl rfl rfl rfl (by decide) rfl (Or.inr ⟨rfl, hnm⟩) (by decide) rfl ?_
  refine A_blk hM.1 2 (lv1 := [some (aR 150)]) (s1 := [aI 12, aR 150]) (h1 := setH (setH (setH (setH hz0 52 1 1) 66 16 (-1)) 0 15 1) 150 6 1) rfl ?_
  refine A_newi hM.1 rfl rfl (L := 12) rfl rfl (by decide) (fun j => rfl) rfl (by decide) (rm_le hrm rfl rfl) ?_
  refine A_putr hM.1 rfl rfl rfl rfl (by decide) rfl (Or.inr ⟨rfl, hnm⟩) (by decide) rfl ?_
  refine A_blk hM.1 2 (lv1 := [some (aR 150)]) (s1 := [aI 12, aR 150]) (h1 := setH (setH (setH (setH hz0 52 1 1) 66 16 (-1)) 0 15 1) 150 6 1) rfl ?_
  refine A_newi hM.1 rfl rfl (L := 12) rfl rfl (by decide) (fun j => rfl) rfl (by decide) (rm_le hrm rfl rfl) ?_
  refine A_putr hM.1 rfl rfl rfl rfl (by decide) rfl (Or.inr ⟨rfl, hnm⟩) (by decide) rfl ?_
  refine A_blk hM.1 2 (lv1 := [some (aR 150)]) (s1 := [aI 12, aR 150]) (h1 := setH (setH (setH (setH hz0 52 1 1) 66 16 (-1)) 0 15 1) 150 6 1) rfl ?_
  refine A_newi hM.1 rfl rfl (L := 12) rfl rfl (by decide) (fun j => rfl) rfl (by decide) (rm_le hrm rfl rfl) ?_
  refine A_putr hM.1 rfl rfl rfl rfl (by decide) rfl (Or.inr ⟨rfl, hnm⟩) (by decide) rfl ?_
  refine A_blk hM.1 2 (lv1 := [some (aR 150)]) (s1 := [aI 12, aR 150]) (h1 := setH (setH (setH (setH hz0 52 1 1) 66 16 (-1)) 0 15 1) 150 6 1) rfl ?_
  refine A_newi hM.1 rfl rfl (L := 12) rfl rfl (by decide) (fun j => rfl) rfl (by decide) (rm_le hrm rfl rfl) ?_
  refine A_putr hM.1 rfl rfl rfl rfl (by decide) rfl (Or.inr ⟨rfl, hnm⟩) (by decide) rfl ?_
  refine A_blk hM.1 2 (lv1 := [some (aR 150)]) (s1 := [aI 160, aR 150]) (h1 := setH (setH (setH (setH hz0 52 1 1) 66 16 (-1)) 0 15 1) 150 6 1) rfl ?_
  refine A_newi hM.1 rfl rfl (L := 160) rfl rfl (by decide) (fun j => rfl) rfl (by decide) (rm_le hrm rfl rfl) ?_
  refine A_putr hM.1 rfl rfl rfl rfl (by decide) rfl (Or.inr ⟨rfl, hnm⟩) (by decide) rfl ?_
  refine A_blk hM.1 2 (lv1 := [some (aR 150)]) (s1 := [aI 160, aR 150]) (h1 := setH (setH (setH (setH hz0 52 1 1) 66 16 (-1)) 0 15 1) 150 6 1) rfl ?_
  refine A_newi hM.1 rfl rfl (L := 160) rfl rfl (by decide) (fun j => rfl) rfl (by decide) (rm_le hrm rfl rfl) ?_
  refine A_putr hM.1 rfl rfl rfl rfl (by decide) rfl (Or.inr ⟨rfl, hnm⟩) (by decide) rfl ?_
  refine A_blk hM.1 2 (lv1 := [some (aR 150)]) (s1 := [aI 200, aR 150]) (h1 := setH (setH (setH (setH hz0 52 1 1) 66 16 (-1)) 0 15 1) 150 6 1) rfl ?_
  refine A_newi hM.1 rfl rfl (L := 200) rfl rfl (by decide) (fun j => rfl) rfl (by decide) (rm_le hrm rfl rfl) ?_
  refine A_putr hM.1 rfl rfl rfl rfl (by decide) rfl (Or.inr ⟨rfl, hnm⟩) (by decide) rfl ?_
  refine A_blk hM.1 2 (lv1 := [some (aR 150)]) (s1 := [aI 200, aR 150]) (h1 := setH (setH (setH (setH hz0 52 1 1) 66 16 (-1)) 0 15 1) 150 6 1) rfl ?_
  refine A_newi hM.1 rfl rfl (L := 200) rfl rfl (by decide) (fun j => rfl) rfl (by decide) (rm_le hrm rfl rfl) ?_
  refine A_putr hM.1 rfl rfl rfl rfl (by decide) rfl (Or.inr ⟨rfl, hnm⟩) (by decide) rfl ?_
  refine A_blk hM.1 2 (lv1 := [some (aR 150)]) (s1 := [aI 200, aR 150]) (h1 := setH (setH (setH (setH hz0 52 1 1) 66 16 (-1)) 0 15 1) 150 6 1) rfl ?_
  refine A_newz hM.1 rfl rfl (L := 200) rfl rfl (by decide) (fun j => rfl) rfl (by decide) (rm_le hrm rfl rfl) ?_
  refine A_putr hM.1 rfl rfl rfl rfl (by decide) rfl (Or.inr ⟨rfl, hnm⟩) (by decide) rfl ?_
  refine A_blk hM.1 2 (lv1 := [some (aR 150)]) (s1 := [aI 9, aR 150]) (h1 := setH (setH (setH (setH hz0 52 1 1) 66 16 (-1)) 0 15 1) 150 6 1) rfl ?_
  refine A_newi hM.1 rfl rfl (L := 9) rfl rfl (by decide) (fun j => rfl) rfl (by decide) (rm_le hrm rfl rfl) ?_
  refine A_putr hM.1 rfl rfl rfl rfl (by decide) rfl (Or.inr ⟨rfl, hnm⟩) (by decide) rfl ?_
  refine A_blk hM.1 2 (lv1 := [some (aR 150)]) (s1 := [aI 81, aR 150]) (h1 := setH (setH (setH (setH hz0 52 1 1) 66 16 (-1)) 0 15 1) 150 6 1) rfl ?_
  refine A_newi hM.1 rfl rfl (L := 81) rfl rfl (by decide) (fun j => rfl) rfl (by decide) (rm_le hrm rfl rfl) ?_
  refine A_putr hM.1 rfl rfl rfl rfl (by decide) rfl (Or.inr ⟨rfl, hnm⟩) (by decide) rfl ?_
  refine A_blk hM.1 2 (lv1 := [some (aR 150)]) (s1 := [aI 8, aR 150]) (h1 := setH (setH (setH (setH hz0 52 1 1) 66 16 (-1)) 0 15 1) 150 6 1) rfl ?_
  refine A_newi hM.1 rfl rfl (L := 8) rfl rfl (by decide) (fun j => rfl) rfl (by decide) (rm_le hrm rfl rfl) ?_
  refine A_putr hM.1 rfl rfl rfl rfl (by decide) rfl (Or.inr ⟨rfl, hnm⟩) (by decide) rfl ?_
  refine A_blk hM.1 2 (lv1 := [some (aR 150)]) (s1 := [aI 320, aR 150]) (h1 := setH (setH (setH (setH hz0 52 1 1) 66 16 (-1)) 0 15 1) 150 6 1) rfl ?_
  refine A_newi hM.1 rfl rfl (L := 320) rfl rfl (by decide) (fun j => rfl) rfl (by decide) (rm_le hrm rfl rfl) ?_
  refine A_putr hM.1 rfl rfl rfl rfl (by decide) rfl (Or.inr ⟨rfl, hnm⟩) (by decide) rfl ?_
  refine A_blk hM.1 2 (lv1 := [some (aR 150)]) (s1 := [aI 8, aR 150]) (h1 := setH (setH (setH (setH hz0 52 1 1) 66 16 (-1)) 0 15 1) 150 6 1) rfl ?_
  refine A_newi hM.1 rfl rfl (L := 8) rfl rfl (by decide) (fun j => rfl) rfl (by decide) (rm_le hrm rfl rfl) ?_
  refine A_putr hM.1 rfl rfl rfl rfl (by decide) rfl (Or.inr ⟨rfl, hnm⟩) (by decide) rfl ?_
  refine A_blk hM.1 2 (lv1 := [some (aR 150)]) (s1 := [aI 60, aR 150]) (h1 := setH (setH (setH (setH hz0 52 1 1) 66 16 (-1)) 0 15 1) 150 6 1) rfl ?_
  refine A_newi hM.1 rfl rfl (L := 60) rfl rfl (by decide) (fun j => rfl) rfl (by decide) (rm_le hrm rfl rfl) ?_
  refine A_putr hM.1 rfl rfl rfl rfl (by decide) rfl (Or.inr ⟨rfl, hnm⟩) (by decide) rfl ?_
  refine A_blk hM.1 2 (lv1 := [some (aR 150)]) (s1 := [aI 60, aR 150]) (h1 := setH (setH (setH (setH hz0 52 1 1) 66 16 (-1)) 0 15 1) 150 6 1) rfl ?_
  refine A_newi hM.1 rfl rfl (L := 60) rfl rfl (by decide) (fun j => rfl) rfl (by decide) (rm_le hrm rfl rfl) ?_
  refine A_putr hM.1 rfl rfl rfl rfl (by decide) rfl (Or.inr ⟨rfl, hnm⟩) (by decide) rfl ?_
  refine A_blk hM.1 2 (lv1 := [some (aR 150)]) (s1 := [aI 10, aR 150]) (h1 := setH (setH (setH (setH hz0 52 1 1) 66 16 (-1)) 0 15 1) 150 6 1) rfl ?_
  refine A_newi hM.1 rfl rfl (L := 10) rfl rfl (by decide) (fun j => rfl) rfl (by decide) (rm_le hrm rfl rfl) ?_
  refine A_putr hM.1 rfl rfl rfl rfl (by decide) rfl (Or.inr ⟨rfl, hnm⟩) (by decide) rfl ?_
  refine A_blk hM.1 2 (lv1 := [some (aR 150)]) (s1 := [aI 10, aR 150]) (h1 := setH (setH (setH (setH hz0 52 1 1) 66 16 (-1)) 0 15 1) 150 6 1) rfl ?_
  refine A_newi hM.1 rfl rfl (L := 10) rfl rfl (by decide) (fun j => rfl) rfl (by decide) (rm_le hrm rfl rfl) ?_
  refine A_putr hM.1 rfl rfl rfl rfl (by decide) rfl (Or.inr ⟨rfl, hnm⟩) (by decide) rfl ?_
  refine A_blk hM.1 2 (lv1 := [some (aR 150)]) (s1 := [aI 100, aR 150]) (h1 := setH (setH (setH (setH hz0 52 1 1) 66 16 (-1)) 0 15 1) 150 6 1) rfl ?_
  refine A_newi hM.1 rfl rfl (L := 100) rfl rfl (by decide) (fun j => rfl) rfl (by decide) (rm_le hrm rfl rfl) ?_
  refine A_putr hM.1 rfl rfl rfl rfl (by decide) rfl (Or.inr ⟨rfl, hnm⟩) (by decide) rfl ?_
  refine A_blk hM.1 2 (lv1 := [some (aR 150)]) (s1 := [aI 10240, aR 150]) (h1 := setH (setH (setH (setH hz0 52 1 1) 66 16 (-1)) 0 15 1) 150 6 1) rfl ?_
  refine A_newi hM.1 rfl rfl (L := 10240) rfl rfl (by decide) (fun j => rfl) rfl (by decide) (rm_le hrm rfl rfl) ?_
  refine A_putr hM.1 rfl rfl rfl rfl (by decide) rfl (Or.inr ⟨rfl, hnm⟩) (by decide) rfl ?_
  refine A_blk hM.1 2 (lv1 := [some (aR 150)]) (s1 := [aI 10240, aR 150]) (h1 := setH (setH (setH (setH hz0 52 1 1) 66 16 (-1)) 0 15 1) 150 6 1) rfl ?_
  refine A_newl hM.1 rfl rfl (L := 10240) rfl rfl (by decide) (fun j => rfl) rfl (by decide) (rm_le hrm rfl rfl) ?_
  refine A_putr hM.1 rfl rfl rfl rfl (by decide) rfl (Or.inr ⟨rfl, hnm⟩) (by decide) rfl ?_
  refine A_blk hM.1 2 (lv1 := [some (aR 150)]) (s1 := [aI 512, aR 150]) (h1 := setH (setH (setH (setH hz0 52 1 1) 66 16 (-1)) 0 15 1) 150 6 1) rfl ?_
  refine A_newi hM.1 rfl rfl (L := 512) rfl rfl (by decide) (fun j => rfl) rfl (by decide) (rm_le hrm rfl rfl) ?_
  refine A_putr hM.1 rfl rfl rfl rfl (by decide) rfl (Or.inr ⟨rfl, hnm⟩) (by decide) rfl ?_
  refine A_blk hM.1 2 (lv1 := [some (aR 150)]) (s1 := [aI 8, aR 150]) (h1 := setH (setH (setH (setH hz0 52 1 1) 66 16 (-1)) 0 15 1) 150 6 1) rfl ?_
  refine A_newi hM.1 rfl rfl (L := 8) rfl rfl (by decide) (fun j => rfl) rfl (by decide) (rm_le hrm rfl rfl) ?_
  refine A_putr hM.1 rfl rfl rfl rfl (by decide) rfl (Or.inr ⟨rfl, hnm⟩) (by decide) rfl ?_
  refine A_blk hM.1 2 (lv1 := [some (aR 150)]) (s1 := [aI 60, aR 150]) (h1 := setH (setH (setH (setH hz0 52 1 1) 66 16 (-1)) 0 15 1) 150 6 1) rfl ?_
  refine A_newi hM.1 rfl rfl (L := 60) rfl rfl (by decide) (fun j => rfl) rfl (by decide) (rm_le hrm rfl rfl) ?_
  refine A_putr hM.1 rfl rfl rfl rfl (by decide) rfl (Or.inr ⟨rfl, hnm⟩) (by decide) rfl ?_
  refine A_blk hM.1 2 (lv1 := [some (aR 150)]) (s1 := [aI 60, aR 150]) (h1 := setH (setH (setH (setH hz0 52 1 1) 66 16 (-1)) 0 15 1) 150 6 1) rfl ?_
  refine A_newi hM.1 rfl rfl (L := 60) rfl rfl (by decide) (fun j => rfl) rfl (by decide) (rm_le hrm rfl rfl) ?_
  refine A_putr hM.1 rfl rfl rfl rfl (by decide) rfl (Or.inr ⟨rfl, hnm⟩) (by decide) rfl ?_
  refine A_blk hM.1 2 (lv1 := [some (aR 150)]) (s1 := [aI 60, aR 150]) (h1 := setH (setH (setH (setH hz0 52 1 1) 66 16 (-1)) 0 15 1) 150 6 1) rfl ?_
  refine A_newi hM.1 rfl rfl (L := 60) rfl rfl (by decide) (fun j => rfl) rfl (by decide) (rm_le hrm rfl rfl) ?_
  refine A_putr hM.1 rfl rfl rfl rfl (by decide) rfl (Or.inr ⟨rfl, hnm⟩) (by decide) rfl ?_
  exact A_retv hM.1 rfl rfl rfl ⟨rfl, rfl, rfl⟩
theorem rf_end : rfS 210 = rfT := by
  have h1 : evL.all (fun e => rfT e.1 e.2.1 == some e.2.2) = true := by decide +kernel
  have h2 : rfL.zipIdx.all (fun p => p.1.zipIdx.all (fun q => q.1.isNone || evL.any (fun e => e.1 == p.2 && e.2.1 == q.2))) = true := by decide +kernel
  have h3 : (List.range 8).all (fun j => evL.any (fun e => e.1 == 27 && e.2.1 == j)) = true := by decide +kernel
  have h4 : evL.take 210 = evL := List.take_of_length_le (by decide +kernel)
  funext a j
  unfold rfS
  rw [h4]
  cases hf : evL.reverse.find? (fun e => e.1 == a && e.2.1 == j) with
  | some e =>
    have hm := List.mem_reverse.mp (List.mem_of_find?_eq_some hf)
    have hp := List.find?_some hf
    simp only [Bool.and_eq_true, beq_iff_eq] at hp
    obtain ⟨rfl, rfl⟩ := hp
    have := List.all_eq_true.mp h1 e hm
    simp only [beq_iff_eq] at this
    rw [this]
    rfl
  | none =>
    have hn := List.find?_eq_none.mp hf
    have no : evL.any (fun e => e.1 == a && e.2.1 == j) = true → False := fun h => by
      obtain ⟨e, he, hp⟩ := List.any_eq_true.mp h
      exact hn e (List.mem_reverse.mpr he) hp
    show none = rfT a j
    unfold rfT
    split
    · rename_i q
      subst q
      split
      · rename_i q
        exact (no (List.all_eq_true.mp h3 j (List.mem_range.mpr q))).elim
      · rfl
    · rw [List.getD_eq_getElem?_getD, List.getD_eq_getElem?_getD]
      cases ha : rfL[a]? with
      | none => rfl
      | some r =>
        show none = (r[j]?).getD none
        cases hj : r[j]? with
        | none => rfl
        | some o =>
          cases o with
          | none => rfl
          | some v =>
            have m1 : (r, a) ∈ rfL.zipIdx := List.mem_zipIdx_iff_getElem?.mpr ha
            have m2 : (some v, j) ∈ r.zipIdx := List.mem_zipIdx_iff_getElem?.mpr hj
            have := List.all_eq_true.mp (List.all_eq_true.mp h2 _ m1) _ m2
            exact (no (by simpa using this)).elim
