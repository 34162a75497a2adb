
section Mv
variable {P : zPl} {g : zS} {N : Nat} {r : Nat → Nat}
/-- setting a place of the reference's own numbers that no relation speaks of -/
theorem mP_zi {k : Nat} (hk : k ≠ 16 ∧ k ≠ 17 ∧ k ≠ 19) (v : Int32) (h : mP P g) : mP P (zi g 42 k v) := by
  unfold mP at h ⊢
  rw [zi_else (c := 42) (k := k) (i := 16) g v (fun e => hk.1 e.2.symm), zi_else (c := 42) (k := k) (i := 17) g v (fun e => hk.2.1 e.2.symm), zi_else (c := 42) (k := k) (i := 19) g v (fun e => hk.2.2 e.2.symm), zi_cell g v (show 51 ≠ 42 by decide), zi_cell g v (show 52 ≠ 42 by decide), zi_cell g v (show 53 ≠ 42 by decide), zi_cell g v (show 54 ≠ 42 by decide), zi_cell g v (show 58 ≠ 42 by decide)]
  exact h
theorem mF_zi {k : Nat} (v : Int32) (h : mF P g) : mF P (zi g 42 k v) := by
  unfold mF at h ⊢
  rw [zi_cell g v (show 57 ≠ 42 by decide), zi_cell g v (show 56 ≠ 42 by decide)]
  exact h
theorem mR_zi {k : Nat} (hk : k ≠ 18) (v : Int32) (h : mR P N r g) : mR P N r (zi g 42 k v) := by
  unfold mR at h ⊢
  rw [zi_else (c := 42) (k := k) (i := 18) g v (fun e => hk e.2.symm), zi_cell g v (show 55 ≠ 42 by decide)]
  exact h
theorem zi_zi (g : zS) (c k : Nat) (a b : Int32) : zi (zi g c k a) c k b = zi g c k b := by
  unfold zi
  refine Prod.ext (funext fun i => funext fun j => ?_) rfl
  dsimp only
  split <;> rfl
/-- how many sets below n mend and weigh as a set does -/
def lmN (P : zPl) (c b n : Nat) : Nat := if b = 99 then 0 else cnt (fun T => wSum P T (pn P) == wSum P b (pn P) && cmd P c T) n
end Mv
