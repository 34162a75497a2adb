
/-! ===== the reference's boxes: laid, or not ===== -/
section Na
variable {P : zPl} {g : zS} {D : Nat → Nat}
/-- sets a, b: something fails behind all their values -/
def anyQ (P : zPl) (A B x : Nat) : Prop := ∀ v, v < 5 → A.testBit v = true → ∀ w, w < 5 → B.testBit w = true → dfB P (625 * v + 125 * w + x) = true
/-- a truth that a loop keeps, as long as it holds -/
theorem wh_tru {R : Type} {step : Int32 × Int32 → Option ((Int32 × Int32) ⊕ R)} (Q : Nat → Prop) (out : Bool → R) (h1 : ∀ i, i < 5 → ∃ b : Bool, step (1, nI i) = some (.inl (bI b, nI (i + 1))) ∧ (b = true ↔ Q i)) (h3 : ∀ b : Bool, step (bI b, nI 5) = some (.inr (out b))) (h4 : ∀ i, i < 5 → step (0, nI i) = some (.inr (out false))) {b0 : Bool} : ∃ b, wh step (bI b0, (0 : Int32)) = some (out b) ∧ (b = true ↔ b0 = true ∧ ∀ i, i < 5 → Q i) := by
  obtain ⟨r, w, b, q1, q2⟩ := wh_post (step := step) (fun s => ∃ i b, i ≤ 5 ∧ s = (bI b, nI i) ∧ (b = true ↔ b0 = true ∧ ∀ j, j < i → Q j)) (fun s => 5 - s.2.toNatClampNeg) (fun r => ∃ b, r = out b ∧ (b = true ↔ b0 = true ∧ ∀ i, i < 5 → Q i)) (fun s hI => by
    obtain ⟨i, b, hi, rfl, hb⟩ := hI
    by_cases c : i = 5
    · subst c
      exact ⟨_, h3 b, b, rfl, hb⟩
    · cases b with
      | false =>
        refine ⟨_, h4 i (by omega), false, rfl, ⟨fun q => (by cases q), fun q => hb.mpr ⟨q.1, fun j hj => q.2 j (by omega)⟩⟩⟩
      | true =>
        obtain ⟨b, w, hq⟩ := h1 i (by omega)
        refine ⟨_, w, ⟨i + 1, b, by omega, rfl, ?_⟩, ?_⟩
        · rw [hq]
          have h5 := hb.mp rfl
          constructor
          · intro q
            refine ⟨h5.1, fun j hj => ?_⟩
            by_cases q2 : j = i
            · rw [q2]; exact q
            · exact h5.2 j (by omega)
          · intro q
            exact q.2 i (by omega)
        · show 5 - (nI (i + 1)).toNatClampNeg < 5 - (nI i).toNatClampNeg
          rw [nI_cl (by omega), nI_cl (by omega)]; omega) (bI b0, (0 : Int32)) ⟨0, b0, by omega, rfl, ⟨fun h => ⟨h, fun j hj => absurd hj (Nat.not_lt_zero j)⟩, fun h => h.1⟩⟩
  exact ⟨b, by rw [w, q1], q2⟩
/-- the sets 0, 1, 2 of a box -/
def D3 (a b c : Nat) : Nat → Nat := fun f => if f = 0 then a else if f = 1 then b else c
theorem kx_D1 (a b c : Nat) : kx (D3 a b c) 1 = a * 1048576 := by
  show 0 + a * 1048576 = _
  omega
theorem kx_D2 (a b c : Nat) : kx (D3 a b c) 2 = a * 1048576 + b * 32768 := by
  show 0 + a * 1048576 + b * 32768 = _
  omega
theorem kx_D3 (a b c : Nat) : kx (D3 a b c) 3 = a * 1048576 + b * 32768 + c * 1024 := by
  show 0 + a * 1048576 + b * 32768 + c * 1024 = _
  omega
end Na
