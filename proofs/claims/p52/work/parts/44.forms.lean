
/-! ===== the reference: forms as numbers ===== -/
section Mo
variable {P : zPl} {g : zS}
/-- the reference's plan -/
def mP (P : zPl) (g : zS) : Prop := g.1 42 16 = nI (pn P) ∧ g.1 42 17 = nI (pm P) ∧ g.1 42 19 = gI (pg P) ∧ (∀ f, f < pn P → g.1 51 f = nI (pq P f)) ∧ (∀ f, f < pn P → g.1 52 f = nI (pw P f)) ∧ (∀ f, f < pn P → g.1 53 f = nI (ps P f)) ∧ (∀ e, e < pm P → ∀ f, f < pn P → g.1 54 (5 * e + f) = nI (pE P e f)) ∧ ∀ f, f < 5 → g.1 58 f = nI (5 ^ (4 - f))
/-- the value of a field in a form -/
def vo (x f : Nat) : Nat := x / 5 ^ (4 - f) % 5
theorem vo_lt (x f : Nat) : vo x f < 5 := Nat.mod_lt _ (by omega)
theorem p5_le {f : Nat} : 5 ^ (4 - f) ≤ 625 ∧ 0 < 5 ^ (4 - f) := ⟨show 5 ^ (4 - f) ≤ 5 ^ 4 from Nat.pow_le_pow_right (by omega) (by omega), Nat.pow_pos (by omega)⟩
/-- how many values a field has; one beyond the last -/
def mq (P : zPl) (f : Nat) : Nat := if f < pn P then pq P f else 1
theorem mq_le (hO : pOK P) (f : Nat) : 1 ≤ mq P f ∧ mq P f ≤ 5 := by
  unfold mq
  split
  · next c => have := hO.2.1 f c; omega
  · omega
end Mo
