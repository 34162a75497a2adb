/-! ===== the law's texts are not the same ===== -/
theorem gv_L6 : ∀ j, j < 15 → ∀ i, i < j → Cond.not (Cond.eq (Term.string "EditMenderLaw" (zlI.getD i 0)) (Term.string "EditMenderLaw" (zlI.getD j 0))) ∈ flatC zGv := by decide +kernel
