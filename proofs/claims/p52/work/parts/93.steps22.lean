
/-! ===== steps: within, blame ===== -/
section S22
variable {S S' : zSt} {g h k : zS} {P : zPl} {N : Nat} {r : Nat → Nat}
theorem sub_s2 (a b : Int32) : a - (b + 1) = (a - b) + (-1 : Int32) := by
  rw [Int32.sub_eq_add_neg, Int32.neg_add, Int32.sub_eq_add_neg, Int32.sub_eq_add_neg, Int32.add_assoc]
theorem full_m (hO : pOK P) (c : Nat) : mSb c 0 (pn P) = true ↔ ∀ f, f < pn P → rv c f ≠ 0 := by
  rw [mSb_iff hO.1]
  constructor
  · intro h f hf q
    have := h f hf q
    rw [Nat.zero_testBit] at this
    cases this
  · intro h f hf q
    exact absurd q (h f hf)
end S22
