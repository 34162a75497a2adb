
/-! ===== steps: blame ===== -/
section S23
variable {S S' : zSt} {g h k : zS} {P : zPl} {N : Nat} {r : Nat → Nat}
/-- of the boxes that hold the form, how many a field enters -/
noncomputable def enB (P : zPl) (c f i : Nat) : Bool := hlB P c i && (bk (bX P i) f != 2 ^ pq P f - 1)
noncomputable def bE (P : zPl) (c f : Nat) : Nat := cnt (enB P c f) (nB P)
/-- the field that enters most of them -/
noncomputable def blB (P : zPl) (c : Nat) : Nat → Nat
  | 0 => 0
  | n + 1 => if n = 0 then 0 else if bE P c (blB P c n) < bE P c n ∨ (bE P c n = bE P c (blB P c n) ∧ pw P n < pw P (blB P c n)) then n else blB P c n
theorem blB_lt (P : zPl) (c : Nat) : ∀ n, blB P c (n + 1) ≤ n
  | 0 => by unfold blB; rw [if_pos rfl]; exact Nat.le_refl _
  | n + 1 => by
    have ih := blB_lt P c n
    unfold blB
    rw [if_neg (by omega)]
    by_cases q : bE P c (blB P c (n + 1)) < bE P c (n + 1) ∨ (bE P c (n + 1) = bE P c (blB P c (n + 1)) ∧ pw P (n + 1) < pw P (blB P c (n + 1)))
    · rw [if_pos q]; exact Nat.le_refl _
    · rw [if_neg q]; omega
theorem blB_s (P : zPl) (c : Nat) {n : Nat} (h : n ≠ 0) : blB P c (n + 1) = if bE P c (blB P c n) < bE P c n ∨ (bE P c n = bE P c (blB P c n) ∧ pw P n < pw P (blB P c n)) then n else blB P c n := by
  show (if n = 0 then 0 else _) = _
  rw [if_neg h]
theorem en_s (P : zPl) (c f i : Nat) : cnt (enB P c f) (i + 1) = if enB P c f i then cnt (enB P c f) i + 1 else cnt (enB P c f) i := cnt_s _ _
/-- the field to blame -/
noncomputable def blA (P : zPl) (c : Nat) : Int32 := if pn P = 0 then -1 else if bE P c (blB P c (pn P)) = 0 then -1 else nI (blB P c (pn P))
/-- the class's best so far -/
noncomputable def bSt (P : zPl) (c n : Nat) : Int32 × Int32 := if n = 0 then (-1, 0) else if bE P c (blB P c n) = 0 then (-1, 0) else (nI (blB P c n), nI (bE P c (blB P c n)))
theorem bE_le (hO : pOK P) (c f : Nat) : bE P c f ≤ 923521 := Nat.le_trans (cnt_le _ _) (nB_le hO)
end S23
