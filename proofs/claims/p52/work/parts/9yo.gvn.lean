/-! ===== the digits, the words ===== -/
theorem gv_D1 : Cond.arrayOf (Term.static "java/lang/Integer" "DigitOnes" "[B") .byte ∈ flatC zGv := by decide +kernel
theorem gv_D2 : Cond.eq (.length (Term.static "java/lang/Integer" "DigitOnes" "[B")) (.int (Int32.ofNat 100)) ∈ flatC zGv := by decide +kernel
theorem gv_D3_0 : ∀ j, j < 10 → Cond.eq (.elem (Term.static "java/lang/Integer" "DigitOnes" "[B") (.int (Int32.ofNat (0 + j)))) (.int (nI (48 + (0 + j) % 10))) ∈ flatC zGv := by decide +kernel
theorem gv_D3_1 : ∀ j, j < 10 → Cond.eq (.elem (Term.static "java/lang/Integer" "DigitOnes" "[B") (.int (Int32.ofNat (10 + j)))) (.int (nI (48 + (10 + j) % 10))) ∈ flatC zGv := by decide +kernel
theorem gv_D3_2 : ∀ j, j < 10 → Cond.eq (.elem (Term.static "java/lang/Integer" "DigitOnes" "[B") (.int (Int32.ofNat (20 + j)))) (.int (nI (48 + (20 + j) % 10))) ∈ flatC zGv := by decide +kernel
theorem gv_D3_3 : ∀ j, j < 10 → Cond.eq (.elem (Term.static "java/lang/Integer" "DigitOnes" "[B") (.int (Int32.ofNat (30 + j)))) (.int (nI (48 + (30 + j) % 10))) ∈ flatC zGv := by decide +kernel
theorem gv_D3_4 : ∀ j, j < 10 → Cond.eq (.elem (Term.static "java/lang/Integer" "DigitOnes" "[B") (.int (Int32.ofNat (40 + j)))) (.int (nI (48 + (40 + j) % 10))) ∈ flatC zGv := by decide +kernel
theorem gv_D3_5 : ∀ j, j < 10 → Cond.eq (.elem (Term.static "java/lang/Integer" "DigitOnes" "[B") (.int (Int32.ofNat (50 + j)))) (.int (nI (48 + (50 + j) % 10))) ∈ flatC zGv := by decide +kernel
theorem gv_D3_6 : ∀ j, j < 10 → Cond.eq (.elem (Term.static "java/lang/Integer" "DigitOnes" "[B") (.int (Int32.ofNat (60 + j)))) (.int (nI (48 + (60 + j) % 10))) ∈ flatC zGv := by decide +kernel
theorem gv_D3_7 : ∀ j, j < 10 → Cond.eq (.elem (Term.static "java/lang/Integer" "DigitOnes" "[B") (.int (Int32.ofNat (70 + j)))) (.int (nI (48 + (70 + j) % 10))) ∈ flatC zGv := by decide +kernel
theorem gv_D3_8 : ∀ j, j < 10 → Cond.eq (.elem (Term.static "java/lang/Integer" "DigitOnes" "[B") (.int (Int32.ofNat (80 + j)))) (.int (nI (48 + (80 + j) % 10))) ∈ flatC zGv := by decide +kernel
theorem gv_D3_9 : ∀ j, j < 10 → Cond.eq (.elem (Term.static "java/lang/Integer" "DigitOnes" "[B") (.int (Int32.ofNat (90 + j)))) (.int (nI (48 + (90 + j) % 10))) ∈ flatC zGv := by decide +kernel
theorem gv_D3 : ∀ j, j < 100 → Cond.eq (.elem (Term.static "java/lang/Integer" "DigitOnes" "[B") (.int (Int32.ofNat j))) (.int (nI (48 + j % 10))) ∈ flatC zGv := fun j hj => by
  have h : ∀ k, k < 10 → ∀ j, j < 10 → Cond.eq (.elem (Term.static "java/lang/Integer" "DigitOnes" "[B") (.int (Int32.ofNat (10 * k + j)))) (.int (nI (48 + (10 * k + j) % 10))) ∈ flatC zGv := fun k hk => by
    match k, hk with
    | 0, _ => exact gv_D3_0
    | 1, _ => exact gv_D3_1
    | 2, _ => exact gv_D3_2
    | 3, _ => exact gv_D3_3
    | 4, _ => exact gv_D3_4
    | 5, _ => exact gv_D3_5
    | 6, _ => exact gv_D3_6
    | 7, _ => exact gv_D3_7
    | 8, _ => exact gv_D3_8
    | 9, _ => exact gv_D3_9
    | k + 10, hk => omega
  have h2 := h (j / 10) (by omega) (j % 10) (by omega)
  rw [Nat.div_add_mod] at h2
  exact h2
theorem gv_W3 : ∀ j, j < 6 → Cond.eq (.elem (Term.static "EditMender$Family" "WITH" "[J") (.int (Int32.ofNat j))) (.long (zwith.getD j 0)) ∈ flatC zGv := by decide +kernel
theorem gv_dc : ∀ x ∈ zdcl, Cond.declares x ∈ lw_tbl := by decide +kernel
theorem gv_ce : ∀ E ∈ zexs, Cond.castable E E ∈ lw_tbl := by decide +kernel
theorem gv_nw : ∀ w ∈ znst, w ∈ lw_tbl := by decide +kernel
theorem gv_rf : ∀ q ∈ zrefs, Cond.stringRef q.1 q.2.1 q.2.2.1 ∈ lw_tbl := by decide +kernel
theorem gv_rs : ∀ q ∈ zrefs, (∃ i, i < 9 ∧ q = ("EditMender$Reader", zrI.getD i 0, q.2.2.1, 900 + i)) ∨ (∃ i, i < 15 ∧ q = ("EditMenderLaw", zlI.getD i 0, q.2.2.1, 1000 + i)) := by decide +kernel
theorem gv_pz : ∀ y ∈ [yJ5_ensureCapacityInternal_d00df, yJ5_newCapacity_0f7a4, yJ5_putStringAt_47b60, yJ5_inflateIfNeededFor_a7421], ((y.cls ≠ "java/lang/invoke/MethodHandle" ∧ y.cls ≠ "java/lang/invoke/VarHandle") ∧ yJ5_isLatin1_aae02.cls = y.cls) ∧ Cond.privateMethod y ∈ lw_tbl ∧ Cond.instanceMethod y ∈ lw_tbl := by decide +kernel
