
/-! ===== the reference: how far rows are, donors ===== -/
section Md
variable {P : zPl} {g : zS} {N : Nat} {r : Nat → Nat}
/-- the number of the form that a row is with a donor's answers -/
def bF (P : zPl) (c d S : Nat) : Nat := fno (fun f => rv (bld c d S) f - 1) (pn P)
/-- the reference's donors -/
def mD (P : zPl) (N : Nat) (r : Nat → Nat) (i : Nat) (s : zDn) (g : zS) : Prop := g.1 42 42 = nI s.1 ∧ ∀ k, k < s.1 → g.1 66 k = nI (s.2.1 k) ∧ s.2.1 k < N ∧ g.1 67 k = nI (s.2.2 k) ∧ s.2.2 k ≤ 225 ∧ g.1 68 k = nI (bF P (r i) (r (s.2.1 k)) (ls P (r i)))
theorem sc_66 {k : Nat} : scB 66 k = true := rfl
end Md
