
/-! ===== steps: blame, the reference ===== -/
section S24
variable {S S' : zSt} {g h k : zS} {P : zPl} {N : Nat} {r : Nat → Nat} {W : Nat → Nat → Prop}
theorem mP_mw (q : ∀ c k, W c k → ¬ (51 ≤ c ∧ c ≤ 54) ∧ c ≠ 58 ∧ (c = 42 → k ≠ 16 ∧ k ≠ 17 ∧ k ≠ 19)) (a : mw W g h) (p : mP P g) : mP P h := by
  have e : ∀ c, (51 ≤ c ∧ c ≤ 54) ∨ c = 58 → h.1 c = g.1 c := fun c hc => funext fun k => a.1 c k (fun w => by have := q c k w; omega)
  have f : ∀ k, k = 16 ∨ k = 17 ∨ k = 19 → h.1 42 k = g.1 42 k := fun k hk => a.1 42 k (fun w => by have := q 42 k w; omega)
  unfold mP at p ⊢
  rw [f 16 (by omega), f 17 (by omega), f 19 (by omega), e 51 (by omega), e 52 (by omega), e 53 (by omega), e 54 (by omega), e 58 (by omega)]
  exact p
/-- the reference's counts so far -/
def bl63 (P : zPl) (v : Nat → Nat) (g s : zS) : Prop := (∀ f, f < pn P → s.1 63 f = nI (v f)) ∧ mw (fun c _ => c = 63) g s
end S24
