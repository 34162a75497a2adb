
/-! ===== steps: of fields, least sets, alike rows, donors, patterns, shares ===== -/
section S4
variable {g h : zS} {P : zPl} {N : Nat} {r : Nat → Nat}
theorem gI_eq {P : zPl} (hO : pOK P) {i : Nat} (hi : i < pn P) : gI (pg P) = nI i ↔ pg P = i := by
  have h5 := hO.1
  unfold gI
  by_cases c : pg P = 9
  · rw [if_pos c]
    exact ⟨fun q => by rw [nI_m1] at q; exact (nN_eqm (by omega)).mp q.symm |>.elim, fun q => by omega⟩
  · have := hO.2.2.2.2.2.1.resolve_right c
    rw [if_neg c, nN_eq (by omega) (by omega)]
theorem c4 {w : Nat} (h : w < 4) : w = 0 ∨ w = 1 ∨ w = 2 ∨ w = 3 := by omega
theorem nIx4 {a : Int32} {n : Nat} (h : nIx a (n + 1)) (k : Nat) (hk : k ≤ n) (hn : n < 2147483647) : a ≠ nI k := fun q => by
  rcases h with h | ⟨_, h⟩
  · rw [q] at h; exact nI_nn (by omega) h
  · rw [q, nN_le (by omega) (by omega)] at h; omega
end S4
