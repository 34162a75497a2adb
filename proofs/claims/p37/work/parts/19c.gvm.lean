
theorem gv_M1 : ∀ i, i < 9 → Cond.exactly (Term.string "EditMenderModel" (zmI.getD i 0)) "java/lang/String" ∈ flatC zGv := by decide +kernel
theorem gv_M2 : ∀ i, i < 9 → Cond.eq (.field (Term.string "EditMenderModel" (zmI.getD i 0)) "java/lang/String" "coder" "B") (.int 0) ∈ flatC zGv := by decide +kernel
theorem gv_M3 : ∀ i, i < 9 → Cond.arrayOf (.field (Term.string "EditMenderModel" (zmI.getD i 0)) "java/lang/String" "value" "[B") .byte ∈ flatC zGv := by decide +kernel
theorem gv_M4 : ∀ i, i < 9 → Cond.eq (.length (.field (Term.string "EditMenderModel" (zmI.getD i 0)) "java/lang/String" "value" "[B")) (.int (Int32.ofNat (slen.getD i 0))) ∈ flatC zGv := by decide +kernel
theorem gv_M5 : ∀ i, i < 9 → ∀ j, j < slen.getD i 0 → Cond.eq (.elem (.field (Term.string "EditMenderModel" (zmI.getD i 0)) "java/lang/String" "value" "[B") (.int (Int32.ofNat j))) (.int ((sbyt.getD i []).getD j 0)) ∈ flatC zGv := by decide +kernel
theorem gv_M6 : ∀ j, j < 9 → ∀ i, i < j → Cond.not (Cond.eq (Term.string "EditMenderModel" (zmI.getD i 0)) (Term.string "EditMenderModel" (zmI.getD j 0))) ∈ flatC zGv := by decide +kernel
