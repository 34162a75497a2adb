
/-! ===== the reference's boxes: forms that fail, the last field's values ===== -/
section Ml
variable {P : zPl} {g : zS}
/-- a number is a form that fails -/
def dfB (P : zPl) (x : Nat) : Bool := isF5 P x && fsM P x != 0
theorem fsM_lt (hO : pOK P) (x : Nat) : fsM P x < 64 := by
  have h6 := p2m hO
  unfold fsM
  split
  · have : fs P (vo x) < 2 ^ pm P := bS_lt _ _
    omega
  · omega
/-- what a loop gives that keeps the bits for which something holds, and ends where none is left -/
theorem wh_and {R : Type} {step : Int32 × Int32 → Option ((Int32 × Int32) ⊕ R)} {M : Nat} (hM0 : 0 < M) (A : Nat) (Q : Nat → Nat → Prop) (out : Nat → R) (h1 : ∀ i t, i < 5 → t < M → t ≠ 0 → A.testBit i = false → step (nI t, nI i) = some (.inl (nI t, nI (i + 1)))) (h2 : ∀ i t, i < 5 → t < M → t ≠ 0 → A.testBit i = true → ∃ u, step (nI t, nI i) = some (.inl (nI u, nI (i + 1))) ∧ u < M ∧ ∀ z, u.testBit z = true ↔ t.testBit z = true ∧ Q i z) (h3 : ∀ t, step (nI t, nI 5) = some (.inr (out t))) (h4 : ∀ i, i < 5 → step (nI 0, nI i) = some (.inr (out 0))) {t0 : Nat} (ht : t0 < M) : ∃ u, wh step (nI t0, nI 0) = some (out u) ∧ u < M ∧ ∀ z, u.testBit z = true ↔ t0.testBit z = true ∧ ∀ i, i < 5 → A.testBit i = true → Q i z := by
  obtain ⟨r, w, u, q1, q2, q3⟩ := wh_post (step := step) (fun s => ∃ i t, i ≤ 5 ∧ t < M ∧ s = (nI t, nI i) ∧ ∀ z, t.testBit z = true ↔ t0.testBit z = true ∧ ∀ j, j < i → A.testBit j = true → Q j z) (fun s => 5 - s.2.toNatClampNeg) (fun r => ∃ u, r = out u ∧ u < M ∧ ∀ z, u.testBit z = true ↔ t0.testBit z = true ∧ ∀ i, i < 5 → A.testBit i = true → Q i z) (fun s hI => by
    obtain ⟨i, t, hi, ht, rfl, hz⟩ := hI
    by_cases c5 : i = 5
    · subst c5
      exact ⟨_, h3 t, t, rfl, ht, hz⟩
    · by_cases c0 : t = 0
      · subst c0
        refine ⟨_, h4 i (by omega), 0, rfl, hM0, fun z => ⟨fun q => (by rw [Nat.zero_testBit] at q; cases q), fun q => ?_⟩⟩
        have := (hz z).mpr ⟨q.1, fun j hj ha => q.2 j (by omega) ha⟩
        exact this
      · cases ha : A.testBit i with
        | false =>
          refine ⟨_, h1 i t (by omega) ht c0 ha, ⟨i + 1, t, by omega, ht, rfl, fun z => ?_⟩, ?_⟩
          · rw [hz z]
            constructor
            · rintro ⟨a, b⟩
              refine ⟨a, fun j hj hb => ?_⟩
              by_cases q : j = i
              · rw [q, ha] at hb; cases hb
              · exact b j (by omega) hb
            · rintro ⟨a, b⟩
              exact ⟨a, fun j hj hb => b j (by omega) hb⟩
          · show 5 - (nI (i + 1)).toNatClampNeg < 5 - (nI i).toNatClampNeg
            rw [nI_cl (by omega), nI_cl (by omega)]; omega
        | true =>
          obtain ⟨u, w, hu, hz2⟩ := h2 i t (by omega) ht c0 ha
          refine ⟨_, w, ⟨i + 1, u, by omega, hu, rfl, fun z => ?_⟩, ?_⟩
          · rw [hz2 z, hz z]
            constructor
            · rintro ⟨⟨a, b⟩, c⟩
              refine ⟨a, fun j hj hb => ?_⟩
              by_cases q : j = i
              · rw [q]; exact c
              · exact b j (by omega) hb
            · rintro ⟨a, b⟩
              exact ⟨⟨a, fun j hj hb => b j (by omega) hb⟩, b i (by omega) ha⟩
          · show 5 - (nI (i + 1)).toNatClampNeg < 5 - (nI i).toNatClampNeg
            rw [nI_cl (by omega), nI_cl (by omega)]; omega) (nI t0, nI 0) ⟨0, t0, by omega, ht, rfl, fun z => ⟨fun q => ⟨q, fun j hj => absurd hj (Nat.not_lt_zero j)⟩, fun q => q.1⟩⟩
  exact ⟨u, by rw [w, q1], q2, q3⟩
theorem wh_and2 {R : Type} {step : Int32 × Int32 → Option ((Int32 × Int32) ⊕ R)} {M : Nat} (N : Nat) (A : Nat) (Q : Nat → Nat → Prop) (out : Nat → R) (h1 : ∀ i t, i < N → t < M → A.testBit i = false → step (nI t, nI i) = some (.inl (nI t, nI (i + 1)))) (h2 : ∀ i t, i < N → t < M → A.testBit i = true → ∃ u, step (nI t, nI i) = some (.inl (nI u, nI (i + 1))) ∧ u < M ∧ ∀ z, u.testBit z = true ↔ t.testBit z = true ∧ Q i z) (h3 : ∀ t, step (nI t, nI N) = some (.inr (out t))) {t0 : Nat} (ht : t0 < M) : ∃ u, wh step (nI t0, nI 0) = some (out u) ∧ u < M ∧ ∀ z, u.testBit z = true ↔ t0.testBit z = true ∧ ∀ i, i < N → A.testBit i = true → Q i z := by
  obtain ⟨r, w, u, q1, q2, q3⟩ := wh_up (step := step) (fun i s => ∃ t, t < M ∧ s = (nI t, nI i) ∧ ∀ z, t.testBit z = true ↔ t0.testBit z = true ∧ ∀ j, j < i → A.testBit j = true → Q j z) (fun r => ∃ u, r = out u ∧ u < M ∧ ∀ z, u.testBit z = true ↔ t0.testBit z = true ∧ ∀ i, i < N → A.testBit i = true → Q i z) N (fun i s hi hI => by
    obtain ⟨t, ht, rfl, hz⟩ := hI
    cases ha : A.testBit i with
    | false =>
      refine ⟨_, h1 i t hi ht ha, t, ht, rfl, fun z => ?_⟩
      rw [hz z]
      constructor
      · rintro ⟨a, b⟩
        refine ⟨a, fun j hj hb => ?_⟩
        by_cases q : j = i
        · rw [q, ha] at hb; cases hb
        · exact b j (by omega) hb
      · rintro ⟨a, b⟩
        exact ⟨a, fun j hj hb => b j (by omega) hb⟩
    | true =>
      obtain ⟨u, w, hu, hz2⟩ := h2 i t hi ht ha
      refine ⟨_, w, u, hu, rfl, fun z => ?_⟩
      rw [hz2 z, hz z]
      constructor
      · rintro ⟨⟨a, b⟩, c⟩
        refine ⟨a, fun j hj hb => ?_⟩
        by_cases q : j = i
        · rw [q]; exact c
        · exact b j (by omega) hb
      · rintro ⟨a, b⟩
        exact ⟨⟨a, fun j hj hb => b j (by omega) hb⟩, b i (by omega) ha⟩) (fun s hI => by
    obtain ⟨t, ht, rfl, hz⟩ := hI
    exact ⟨_, h3 t, t, rfl, ht, hz⟩) (s := (nI t0, nI 0)) ⟨t0, ht, rfl, fun z => ⟨fun q => ⟨q, fun j hj => absurd hj (Nat.not_lt_zero j)⟩, fun q => q.1⟩⟩
  exact ⟨u, by rw [w, q1], q2, q3⟩
/-- the values of the last field that fail behind a number -/
def lbS (P : zPl) (x : Nat) : Nat := bS (fun z => dfB P (x + z)) (mq P 4)
theorem mq32 (hO : pOK P) (f : Nat) : 2 ^ mq P f ≤ 32 := Nat.pow_le_pow_right (n := 2) (by omega) (show mq P f ≤ 5 from (mq_le hO f).2)
end Ml
