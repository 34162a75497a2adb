
/-! ===== the reference: rows that pass, edits that rows fail, ways ===== -/
section Ms
variable {P : zPl} {g : zS} {N : Nat} {r : Nat → Nat}
theorem rmis_0 (c n : Nat) : rmis c n = 0 ↔ ∀ f, f < n → rv c f ≠ 0 := by
  unfold rmis
  constructor
  · intro h f hf h0
    have := congrArg (fun z => z.testBit f) h
    rw [bS_bit, decide_eq_true hf, Nat.zero_testBit] at this
    simp [h0] at this
  · intro h
    apply Nat.eq_of_testBit_eq
    intro f
    rw [bS_bit, Nat.zero_testBit]
    by_cases hf : f < n
    · simp [hf, h f hf]
    · simp [hf]
theorem lft_full {c : Nat} (h : ∀ f, f < pn P → rv c f ≠ 0) : lft P c 0 (pn P) = fs P (fun f => rv c f - 1) := by
  apply Nat.eq_of_testBit_eq
  intro e
  rw [Bool.eq_iff_iff, lft_bit, fs_bit]
  constructor
  · rintro ⟨h1, h2⟩
    refine ⟨h1, fun f hf => ?_⟩
    have h3 := h2 f hf (Nat.zero_testBit f)
    rw [eoa_bit] at h3
    exact h3.2.2 (h f hf)
  · rintro ⟨h1, h2⟩
    refine ⟨h1, fun f hf _ => ?_⟩
    rw [eoa_bit]
    exact ⟨h1, fun q => absurd q (h f hf), fun _ => h2 f hf⟩
/-- the form of a full row -/
theorem row_form (hO : pOK P) {c : Nat} (hc : rOK P c) (h : ∀ f, f < pn P → rv c f ≠ 0) : fno (fun f => rv c f - 1) (pn P) < 3125 ∧ isF5 P (fno (fun f => rv c f - 1) (pn P)) = true ∧ fsM P (fno (fun f => rv c f - 1) (pn P)) = lft P c 0 (pn P) := by
  rw [lft_full h]
  exact fno_form hO (fun f hf => by have := hc.2.1 f hf; have := h f hf; omega)
theorem lft0_s (c n : Nat) : lft P c 0 (n + 1) = lft P c 0 n &&& eoa P n (rv c n) := by
  rw [lft_s, Nat.zero_testBit, if_neg (by decide)]
/-- whether an edit stays open behind a field -/
def opB (P : zPl) (c e f : Nat) : Bool := (eoa P f (rv c f)).testBit e
end Ms
