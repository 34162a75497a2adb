
/-! ===== steps: patterns, alike rows, idle edits, donors ===== -/
section S3
variable {g h : zS} {P : zPl} {N : Nat} {r : Nat → Nat}
/-- rows' patterns as keys -/
def kyP (P : zPl) (r : Nat → Nat) : Nat → Int32 := fun i => nI (pk P (r i))
theorem pkN_eq (hO : pOK P) {c d : Nat} : nI (pk P c) = nI (pk P d) ↔ lft P c 0 (pn P) = lft P d 0 (pn P) ∧ rmis c (pn P) = rmis d (pn P) := by
  have h6 := p2m hO
  have h7 := p2n hO
  have l1 := lft_lt P c 0 (pn P)
  have l2 := lft_lt P d 0 (pn P)
  have r1 : rmis c (pn P) < 2 ^ pn P := bS_lt _ _
  have r2 : rmis d (pn P) < 2 ^ pn P := bS_lt _ _
  unfold pk
  rw [nN_eq (by omega) (by omega)]
  omega
theorem isF_nI (hN : N ≤ 40) {ky : Nat → Int32} {i : Nat} (hi : i < N) : nI (fwk N ky (ky i)) = nI i ↔ isF N ky i = true := by
  have := fwk_lt (ky := ky) hi
  unfold isF
  rw [nN_eq (by omega) (by omega), beq_iff_eq]
theorem rv_ext {c d : Nat} (hc : rOK P c) (hd : rOK P d) (h : ∀ f, f < pn P → rv c f = rv d f) : c = d := by
  have h5 : ∀ f, f < 5 → rv c f = rv d f := fun f hf => by
    by_cases q : f < pn P
    · exact h f q
    · rw [hc.2.2 f (by omega) hf, hd.2.2 f (by omega) hf]
  apply Nat.eq_of_testBit_eq
  intro j
  by_cases hj : j < 15
  · have ej : 3 * (j / 3) + j % 3 = j := Nat.div_add_mod j 3
    have h1 := congrArg (fun z => z.testBit (j % 3)) (h5 (j / 3) (by omega))
    rw [rv_bit, rv_bit, ej, decide_eq_true (show j % 3 < 3 from Nat.mod_lt _ (by omega)), Bool.and_true, Bool.and_true] at h1
    exact h1
  · have e : ∀ x, x < 32768 → x.testBit j = false := fun x hx => Nat.testBit_lt_two_pow (Nat.lt_of_lt_of_le hx (by rw [show 32768 = 2 ^ 15 from rfl]; exact Nat.pow_le_pow_right (by omega) (by omega)))
    rw [e c hc.1, e d hd.1]
end S3
