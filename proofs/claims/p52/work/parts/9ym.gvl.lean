/-! ===== what the start gives: the law's texts, the digits ===== -/
theorem gv_Lh : ∀ i, i < 15 → llen.getD i 0 < 2 ^ 31 := by decide
theorem gv_L1 : ∀ i, i < 15 → Cond.exactly (Term.string "EditMenderLaw" (zlI.getD i 0)) "java/lang/String" ∈ flatC zGv := by decide +kernel
theorem gv_L2 : ∀ i, i < 15 → Cond.eq (.field (Term.string "EditMenderLaw" (zlI.getD i 0)) "java/lang/String" "coder" "B") (.int 0) ∈ flatC zGv := by decide +kernel
theorem gv_L3 : ∀ i, i < 15 → Cond.arrayOf (.field (Term.string "EditMenderLaw" (zlI.getD i 0)) "java/lang/String" "value" "[B") .byte ∈ flatC zGv := by decide +kernel
theorem gv_L4 : ∀ i, i < 15 → Cond.eq (.length (.field (Term.string "EditMenderLaw" (zlI.getD i 0)) "java/lang/String" "value" "[B")) (.int (Int32.ofNat (llen.getD i 0))) ∈ flatC zGv := by decide +kernel
theorem gv_L5 : ∀ i, i < 15 → ∀ j, j < llen.getD i 0 → Cond.eq (.elem (.field (Term.string "EditMenderLaw" (zlI.getD i 0)) "java/lang/String" "value" "[B") (.int (Int32.ofNat j))) (.int ((lbyt.getD i []).getD j 0)) ∈ flatC zGv := by decide +kernel
