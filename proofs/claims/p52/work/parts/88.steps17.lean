
/-! ===== steps: trial ===== -/
section S17
variable {S S' : zSt} {g h k : zS} {P : zPl} {N K : Nat} {r : Nat → Nat}
theorem oC_same (b : Bool) (c n : Nat) : oC P b c c n = 0 := sm_zero n (fun i _ => if_pos rfl)
/-- what a trial changes -/
def tS (P : zPl) (r : Nat → Nat) (N w : Nat) (b : Bool) (n : Nat) : Nat := sm (fun k => oC P b (r k) (wRo P r N w k) (pn P)) n
theorem tS_le (hO : pOK P) (w : Nat) (b : Bool) : ∀ n, tS P r N w b n ≤ 45 * n
  | 0 => Nat.le_refl _
  | n + 1 => by
    have ih := tS_le hO w b n
    have h1 := oC_le hO b (r n) (wRo P r N w n) (pn P) (Nat.le_refl _)
    have h5 := hO.1
    show sm _ (n + 1) ≤ _
    rw [sm_s]
    have e : sm (fun k => oC P b (r k) (wRo P r N w k) (pn P)) n ≤ 45 * n := ih
    omega
def tAn (P : zPl) (r : Nat → Nat) (N w t : Nat) : Nat := if t = 0 then cnt (fun k => rgt P (r k)) N + cnt (wB P r N w) N else tS P r N w (t == 2) N
theorem c3' {t : Nat} (h : t < 3) : t = 0 ∨ t = 1 ∨ t = 2 := by omega
end S17
