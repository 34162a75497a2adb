
/-! ===== the reference: donors gathered, what a row is when mended ===== -/
section Me
variable {P : zPl} {g : zS} {N : Nat} {r : Nat → Nat}
theorem rgt_full {c : Nat} (h : rgt P c = true) : ∀ f, f < pn P → rv c f ≠ 0 := by
  unfold rgt at h
  rw [Bool.and_eq_true, beq_iff_eq, rmis_0] at h
  exact h.1
theorem mD_sc {i : Nat} {s : zDn} {h : zS} (e42 : h.1 42 42 = g.1 42 42) (e66 : h.1 66 = g.1 66) (e67 : h.1 67 = g.1 67) (e68 : h.1 68 = g.1 68) (p : mD P N r i s g) : mD P N r i s h := by
  unfold mD at p ⊢
  rw [e42, e66, e67, e68]
  exact p
theorem bld_full {c d S : Nat} (h5 : pn P ≤ 5) (hm : ∀ f, f < pn P → rv c f = 0 → S.testBit f = true) (hd : ∀ f, f < pn P → rv d f ≠ 0) : ∀ f, f < pn P → rv (bld c d S) f ≠ 0 := fun f hf => by
  rw [rv_bld (by omega)]
  cases hb : S.testBit f with
  | true => rw [if_pos rfl]; exact hd f hf
  | false => rw [if_neg (by decide)]; exact fun q => by rw [hm f hf q] at hb; cases hb
theorem bF_form (hO : pOK P) {c d S : Nat} (hc : rOK P c) (hd : rOK P d) (hfull : ∀ f, f < pn P → rv (bld c d S) f ≠ 0) : bF P c d S < 3125 ∧ psF P (bF P c d S) = rgt P (bld c d S) := by
  have h5 := hO.1
  obtain ⟨v1, v2, v3⟩ := row_form hO (rOK_bld hc hd h5 (S := S)) hfull
  refine ⟨v1, ?_⟩
  unfold bF psF rgt
  rw [v2, v3, (rmis_0 _ _).mpr hfull]
  rfl
end Me
