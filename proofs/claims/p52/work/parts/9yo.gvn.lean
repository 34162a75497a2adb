/-! ===== the digits, the words ===== -/
theorem gv_D1 : Cond.arrayOf (Term.static "java/lang/Integer" "DigitOnes" "[B") .byte ∈ flatC zGv := by decide +kernel
theorem gv_D2 : Cond.eq (.length (Term.static "java/lang/Integer" "DigitOnes" "[B")) (.int (Int32.ofNat 100)) ∈ flatC zGv := by decide +kernel
def gv_D3x : List Nat := [23, 24, 25, 26, 27, 28, 29, 30, 31, 32, 33, 34, 35, 36, 37, 38, 39, 40, 41, 42, 43, 44, 45, 46, 47, 48, 49, 50, 51, 52, 53, 54, 55, 56, 57, 58, 59, 60, 61, 62, 63, 64, 65, 66, 67, 68, 69, 70, 71, 72, 73, 74, 75, 76, 77, 78, 79, 80, 81, 82, 83, 84, 85, 86, 87, 88, 89, 90, 91, 92, 93, 94, 95, 96, 97, 98, 99, 100, 101, 102, 103, 104, 105, 106, 107, 108, 109, 110, 111, 112, 113, 114, 115, 116, 117, 118, 119, 120, 121, 122]
theorem gv_D3 : ∀ j, j < 100 → Cond.eq (.elem (Term.static "java/lang/Integer" "DigitOnes" "[B") (.int (Int32.ofNat j))) (.int (nI (48 + j % 10))) ∈ flatC zGv := fun j hj => gv_ix ((by decide +kernel : ∀ j, j < 100 → (flatC zGv)[gv_D3x.getD j 0]? = some (Cond.eq (.elem (Term.static "java/lang/Integer" "DigitOnes" "[B") (.int (Int32.ofNat j))) (.int (nI (48 + j % 10))))) j hj)
theorem gv_W3 : ∀ j, j < 6 → Cond.eq (.elem (Term.static "EditMender$Family" "WITH" "[J") (.int (Int32.ofNat j))) (.long (zwith.getD j 0)) ∈ flatC zGv := by decide +kernel
theorem gv_dc : ∀ x ∈ zdcl, Cond.declares x ∈ lw_tbl := by decide +kernel
theorem gv_ce : ∀ E ∈ zexs, Cond.castable E E ∈ lw_tbl := by decide +kernel
theorem gv_nw : ∀ w ∈ znst, w ∈ lw_tbl := by decide +kernel
theorem gv_rf : ∀ q ∈ zrefs, Cond.stringRef q.1 q.2.1 q.2.2.1 ∈ lw_tbl := by decide +kernel
theorem gv_rs : ∀ q ∈ zrefs, (∃ i, i < 9 ∧ q = ("EditMender$Reader", zrI.getD i 0, q.2.2.1, 900 + i)) ∨ (∃ i, i < 15 ∧ q = ("EditMenderLaw", zlI.getD i 0, q.2.2.1, 1000 + i)) := by decide +kernel
theorem gv_pz : ∀ y ∈ [yJ5_ensureCapacityInternal_d00df, yJ5_newCapacity_0f7a4, yJ5_putStringAt_47b60, yJ5_inflateIfNeededFor_a7421], ((y.cls ≠ "java/lang/invoke/MethodHandle" ∧ y.cls ≠ "java/lang/invoke/VarHandle") ∧ yJ5_isLatin1_aae02.cls = y.cls) ∧ Cond.privateMethod y ∈ lw_tbl ∧ Cond.instanceMethod y ∈ lw_tbl := by decide +kernel
