
section Mu
variable {P : zPl} {g : zS} {N : Nat} {r : Nat → Nat}
/-- the values that ways below n have -/
def vlN (P : zPl) (c S f n : Nat) : Nat := foN (fun x a => if wyB P c S x then a ||| 2 ^ vo x f else a) n 0
theorem vlN_bit (P : zPl) (c S f v : Nat) : ∀ n, (vlN P c S f n).testBit v = true ↔ ∃ x, x < n ∧ wyB P c S x = true ∧ vo x f = v := by
  intro n
  induction n with
  | zero => exact ⟨fun h => (by rw [show vlN P c S f 0 = 0 from rfl, Nat.zero_testBit] at h; cases h), fun ⟨x, hx, _⟩ => absurd hx (Nat.not_lt_zero x)⟩
  | succ n ih =>
    have e : vlN P c S f (n + 1) = if wyB P c S n then vlN P c S f n ||| 2 ^ vo n f else vlN P c S f n := rfl
    rw [e]
    cases hw : wyB P c S n with
    | false =>
      rw [if_neg (by decide), ih]
      constructor
      · rintro ⟨x, h1, h2⟩
        exact ⟨x, by omega, h2⟩
      · rintro ⟨x, h1, h2, h3⟩
        refine ⟨x, ?_, h2, h3⟩
        by_cases q : x = n
        · subst q; rw [hw] at h2; cases h2
        · omega
    | true =>
      rw [if_pos rfl, Nat.testBit_or, Bool.or_eq_true, ih, Nat.testBit_two_pow, decide_eq_true_eq]
      constructor
      · rintro (⟨x, h1, h2⟩ | h)
        · exact ⟨x, by omega, h2⟩
        · exact ⟨n, by omega, hw, h⟩
      · rintro ⟨x, h1, h2, h3⟩
        by_cases q : x = n
        · subst q; exact Or.inr h3
        · exact Or.inl ⟨x, by omega, h2, h3⟩
theorem vlN_vIn (hO : pOK P) {c S f : Nat} (hc : rOK P c) (hf : f < pn P) : vlN P c S f 3125 = vIn P c S f := by
  apply Nat.eq_of_testBit_eq
  intro v
  rw [Bool.eq_iff_iff, vlN_bit, vIn_iff hO hc hf]
  constructor
  · rintro ⟨x, _, h2, h3⟩
    exact ⟨vo x, (wyB_way hO h2).1, h3⟩
  · rintro ⟨a, w, h3⟩
    obtain ⟨v1, v2, v3⟩ := way_wyB hO w
    exact ⟨_, v1, v2, by rw [v3 f hf]; exact h3⟩
end Mu
