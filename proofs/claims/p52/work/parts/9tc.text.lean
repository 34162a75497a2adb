
/-! ===== read: a text, class and reference ===== -/
section Tx
variable {g h k : zS} {tn : Nat} {tb : Nat → Nat} {s p t : Nat} {P : zPl} {N : Nat} {r : Nat → Nat}
/-- nothing is drafted yet -/
def PZ : zPl := (0, fun _ => 0, fun _ => 0, fun _ => 0, 9, 0, fun _ _ => 0, fun _ => [])
theorem PZ_ok : pOK PZ := ⟨Nat.zero_le _, fun f hf => absurd hf (Nat.not_lt_zero f), fun f hf => absurd hf (Nat.not_lt_zero f), Nat.zero_le _, fun e he => absurd he (Nat.not_lt_zero e), Or.inr rfl, fun _ => rfl⟩
theorem PZ_nm : nmOK PZ := fun f hf => absurd hf (Nat.not_lt_zero f)
def wRx (c k : Nat) : Prop := wRd c k ∨ (c = 42 ∧ k = 2)
theorem wRd_2 : ¬ wRd 42 2 := by unfold wRd; omega
theorem wRd_x (a : mwl wRd g h) : mwl wRx g h := mwl_le (fun c k q => Or.inl q) a
end Tx
