/-! ===== what the start gives: the texts ===== -/
def zrI : List Nat := [54, 98, 100, 109, 63, 71, 139, 134, 79]
def zlI : List Nat := [34, 39, 41, 43, 45, 47, 49, 51, 17, 19, 28, 59, 65, 67, 69]
def zGv : Cond := Jvm.Cond.and given_1 narrow_1
theorem gv_Rh : ∀ i, i < 9 → slen.getD i 0 < 2 ^ 31 := by decide
theorem gv_R1 : ∀ i, i < 9 → Cond.exactly (Term.string "EditMender$Reader" (zrI.getD i 0)) "java/lang/String" ∈ flatC zGv := by decide +kernel
theorem gv_R2 : ∀ i, i < 9 → Cond.eq (.field (Term.string "EditMender$Reader" (zrI.getD i 0)) "java/lang/String" "coder" "B") (.int 0) ∈ flatC zGv := by decide +kernel
theorem gv_R3 : ∀ i, i < 9 → Cond.arrayOf (.field (Term.string "EditMender$Reader" (zrI.getD i 0)) "java/lang/String" "value" "[B") .byte ∈ flatC zGv := by decide +kernel
theorem gv_R4 : ∀ i, i < 9 → Cond.eq (.length (.field (Term.string "EditMender$Reader" (zrI.getD i 0)) "java/lang/String" "value" "[B")) (.int (Int32.ofNat (slen.getD i 0))) ∈ flatC zGv := by decide +kernel
theorem gv_R5 : ∀ i, i < 9 → ∀ j, j < slen.getD i 0 → Cond.eq (.elem (.field (Term.string "EditMender$Reader" (zrI.getD i 0)) "java/lang/String" "value" "[B") (.int (Int32.ofNat j))) (.int ((sbyt.getD i []).getD j 0)) ∈ flatC zGv := by decide +kernel
theorem gv_R6 : ∀ j, j < 9 → ∀ i, i < j → Cond.not (Cond.eq (Term.string "EditMender$Reader" (zrI.getD i 0)) (Term.string "EditMender$Reader" (zrI.getD j 0))) ∈ flatC zGv := by decide +kernel
