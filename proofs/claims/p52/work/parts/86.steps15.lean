
/-! ===== steps: mendAll, trial ===== -/
section S15
variable {S S' : zSt} {g h k : zS} {P : zPl} {N K : Nat} {r : Nat → Nat} {hN : Nat → Nat} {hr : Nat → Nat → Nat}

/-- what comes of a loop that comes to something -/
theorem wh_part {S R : Type} {step : S → Option (S ⊕ R)} (I : S → Prop) (Q : R → Prop) (h1 : ∀ s s', I s → step s = some (.inl s') → I s') (h2 : ∀ s r, I s → step s = some (.inr r) → Q r) {s : S} {r : R} (hs : I s) (h : wh step s = some r) : Q r := by
  have go : ∀ n s, I s → ∀ r, whN step n s = some r → Q r := by
    intro n
    induction n with
    | zero => intro s _ r h; cases h
    | succ n ih =>
      intro s hs r h
      unfold whN at h
      cases e : step s with
      | none => rw [e] at h; cases h
      | some o =>
        rw [e] at h
        cases o with
        | inl s' => exact ih s' (h1 s s' hs e) r h
        | inr r' =>
          have e2 : r' = r := Option.some.inj h
          rw [← e2]
          exact h2 s r' hs e
  unfold wh at h
  split at h
  · exact go _ s hs r h
  · cases h
theorem ite_or {c : Prop} [Decidable c] {α : Type} {a b : Option α} {r : α} (h : (if c then a else b) = some r) : a = some r ∨ b = some r := by
  by_cases q : c
  · rw [if_pos q] at h; exact Or.inl h
  · rw [if_neg q] at h; exact Or.inr h
/-- the cell where the reference lays what it wants to mend stands -/
def p69 (f : Nat → Int32) (o : (Int32 × zS) ⊕ zS) : Prop := match o with
  | .inl s => s.2.1 69 = f
  | .inr r => r.1 69 = f
end S15
