
/-! ===== read: the lines one after another, both ===== -/
section Lp
variable {g h k : zS} {tn : Nat} {tb : Nat → Nat} {s p t : Nat} {P : zPl} {N : Nat} {r : Nat → Nat}
end Lp
