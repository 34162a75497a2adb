
/-! ===== steps: patterns, shares, usual values, groups ===== -/
section S5
variable {g h : zS} {P : zPl} {N : Nat} {r : Nat → Nat}
theorem isF_first {ky : Nat → Int32} {i o : Nat} (hi : i < N) (ho : o < N) (hf : isF N ky i = true) : fwk N ky (ky o) = i ↔ ky o = ky i := by
  have h1 : fwk N ky (ky i) = i := by unfold isF at hf; exact beq_iff_eq.mp hf
  constructor
  · intro h
    have h2 := (fstB_spec (fun j => decide (ky j = ky o)) N).2.2 (by have := fwk_lt (ky := ky) ho; exact this)
    have h3 : fstB (fun j => decide (ky j = ky o)) N = i := h
    rw [h3] at h2
    exact (of_decide_eq_true h2).symm
  · intro h
    rw [h]
    exact h1
theorem kth_cases (p : Nat → Bool) {N : Nat} (hN : N < 2147483648) (K : Int32) : (∃ i, i < N ∧ p i = true ∧ kth p N K = nI i) ∨ kth p N K = -1 := by
  rw [kth_fst p hN K]
  obtain ⟨a, b, c⟩ := fstB_spec (fun i => p i && decide (nI (cnt p i) = K)) N
  generalize fstB (fun i => p i && decide (nI (cnt p i) = K)) N = k at a b c
  by_cases q : k < N
  · have h := c q
    rw [Bool.and_eq_true] at h
    exact Or.inl ⟨k, q, h.1, if_pos q⟩
  · exact Or.inr (if_neg q)
/-! shares -/
/-! groups -/
end S5
