
/-! ===== read: spans, the reference ===== -/
section Sm
variable {g h k : zS} {tn : Nat} {tb : Nat → Nat} {s p : Nat} {P : zPl} {N : Nat} {r : Nat → Nat}
theorem dg_te {lo hi t : Nat} (d : dgO tn tb t lo hi) : t < tn ∧ te tn tb t = t + 1 := ⟨d.2.1, by have := d.1; have := d.2.1; omega⟩
theorem te_sign (hb : ∀ k, k < tn → tb k < 256) {t x : Nat} (hx : x < 256) (h1 : isLt x = false) (h2 : isDg x = false) (h : chr tn tb t = nI x) : t < tn ∧ te tn tb t = t + 1 := by
  have ht : t < tn := Decidable.byContradiction fun q => by
    rw [chr_out q, nI_m1] at h
    exact (nN_eqm (by omega)).mp h.symm
  have h256 := hb t ht
  have e : tb t = x := by
    rw [chr_in ht] at h
    exact (nN_eq (by omega) (by omega)).mp h
  refine ⟨ht, ?_⟩
  unfold te
  rw [if_pos ht, e, h1, h2, if_neg (by decide), if_neg (by decide)]
end Sm
