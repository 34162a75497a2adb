
/-! ===== read: an edit's line, the reference's start of it ===== -/
section En
variable {g h k : zS} {tn : Nat} {tb : Nat → Nat} {s p : Nat} {P : zPl} {N : Nat} {r : Nat → Nat}
end En
