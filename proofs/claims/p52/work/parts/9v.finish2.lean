
/-! ===== read: the reference takes the draft ===== -/
section Fj
variable {g h k y : zS} {tn : Nat} {tb : Nat → Nat} {s p t : Nat} {P : zPl} {N : Nat} {r : Nat → Nat}
/-- a loop that goes n times round -/
theorem wh_go {S R : Type} {step : S → Option (S ⊕ R)} (I : Nat → S → Prop) : ∀ (n : Nat) {s : S}, (∀ i s, i < n → I i s → ∃ s', step s = some (.inl s') ∧ I (i + 1) s') → I 0 s → ∃ s', wh step s = wh step s' ∧ I n s'
  | 0, s, _, h0 => ⟨s, rfl, h0⟩
  | n + 1, s, hs, h0 => by
    obtain ⟨s1, w1, i1⟩ := wh_go I n (fun i s hi => hs i s (by omega)) h0
    obtain ⟨s2, w2, i2⟩ := hs n s1 (by omega) i1
    exact ⟨s2, by rw [w1, wh_in w2], i2⟩
/-- what the three copies change -/
def rc1 (y : zS) (i : Nat) (s : zS) : Prop := (∀ f, f < i → s.2.1 50 f = y.2.1 44 f ∧ s.1 51 f = y.1 45 f ∧ s.1 52 f = y.1 46 f ∧ s.1 53 f = vp_nar .boolean (y.1 47 f)) ∧ (∀ c, c ≠ 51 → c ≠ 52 → c ≠ 53 → s.1 c = y.1 c) ∧ (∀ c, c ≠ 50 → s.2.1 c = y.2.1 c) ∧ s.2.2 = y.2.2
def rc2 (y : zS) (c d : Nat) (i : Nat) (s : zS) : Prop := (∀ f, f < i → s.1 d f = y.1 c f) ∧ (∀ e, e ≠ d → s.1 e = y.1 e) ∧ s.2 = y.2
theorem rc2_s {s : zS} {c d i : Nat} (hcd : c ≠ d) (a : rc2 y c d i s) : rc2 y c d (i + 1) (zi s d i (s.1 c i)) := by
  obtain ⟨a1, a2, a3⟩ := a
  refine ⟨fun f hf => ?_, fun e he => ?_, a3⟩
  · by_cases q : f = i
    · rw [q, zi_at, a2 c hcd]
    · rw [zi_else _ _ (by omega)]; exact a1 f (by omega)
  · rw [zi_cell _ _ he]; exact a2 e he
end Fj
