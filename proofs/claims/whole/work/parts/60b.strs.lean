/-! THE TEXTS, by the tables -/
def tmS (i : Nat) : Term := .string (clR (srL.getD i (0, 0, "", 0)).1) (srL.getD i (0, 0, "", 0)).2.1
def fl0 : List Cond := flatC (Jvm.Cond.and given_1 narrow_1)
def vlS (i : Nat) : Term := .field (tmS i) "java/lang/String" "value" "[B"
theorem st_ex : (List.range 10).all (fun i => decide (Cond.exactly (tmS i) "java/lang/String" ∈ fl0)) = true := by decide +kernel
theorem st_co : (List.range 10).all (fun i => decide (Cond.eq (.field (tmS i) "java/lang/String" "coder" "B") (.int 0) ∈ fl0)) = true := by decide +kernel
theorem st_ar : (List.range 10).all (fun i => decide (Cond.arrayOf (vlS i) .byte ∈ fl0)) = true := by decide +kernel
theorem st_le : (List.range 10).all (fun i => decide (Cond.eq (.length (vlS i)) (.int (Int32.ofNat (strLen.getD i 0))) ∈ fl0)) = true := by decide +kernel
theorem st_el : (List.range 10).all (fun i => (List.range (strLen.getD i 0)).all (fun j => decide (Cond.eq (.elem (vlS i) (.int (Int32.ofNat j))) (.int ((strByt.getD i []).getD j 0)) ∈ fl0))) = true := by decide +kernel
theorem st_ne : (List.range 10).all (fun i => (List.range 10).all (fun j => i == j || decide (Cond.not (Cond.eq (tmS i) (tmS j)) ∈ fl0) || decide (Cond.not (Cond.eq (tmS j) (tmS i)) ∈ fl0))) = true := by decide +kernel
theorem st_ln : (List.range 10).all (fun i => decide (strLen.getD i 0 < 2 ^ 31)) = true := by decide +kernel
theorem st_rf : (List.range 10).all (fun i => decide (lw_tbl[(srL.getD i (0, 0, "", 0)).2.2.2]? = some (.stringRef (clR (srL.getD i (0, 0, "", 0)).1) (srL.getD i (0, 0, "", 0)).2.1 (srL.getD i (0, 0, "", 0)).2.2.1))) = true := by decide +kernel
theorem st_cs : Cond.eq (.static "java/lang/String" "COMPACT_STRINGS" "Z") (.int 1) ∈ fl0 := by decide +kernel
