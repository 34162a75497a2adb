
/-! ===== read: a row's line, the reference ===== -/
section Rm
variable {g h k : zS} {tn : Nat} {tb : Nat → Nat} {s p : Nat} {P : zPl} {N : Nat} {r : Nat → Nat}
theorem wP4_Rd (a : mw wP4 g h) : mw wRd g h := mw_le (fun c k q => by unfold wP4 at q; unfold wRd; omega) a
theorem wP45_Rd (a : mw wP45 g h) : mw wRd g h := mw_le (fun c k q => by unfold wP45 at q; unfold wRd; omega) a
theorem mDf_49 (h5 : pn P ≤ 5) {f : Nat} {x : Int32} (d : mDf P N r g) : mDf P N r (zi g 49 (5 * N + f) x) := by
  obtain ⟨d0, d1, d2, d3, d4, d5, d6, d7, d8, d9⟩ := d
  refine ⟨by rw [zi_else _ _ (by omega)]; exact d0, by rw [zi_else _ _ (by omega)]; exact d1, by rw [zi_else _ _ (by omega)]; exact d2, by rw [zi_else _ _ (by omega)]; exact d3, d4, fun f hf => by rw [zi_cell _ _ (by omega)]; exact d5 f hf, fun f hf => by rw [zi_cell _ _ (by omega)]; exact d6 f hf, fun f hf => by rw [zi_cell _ _ (by omega)]; exact d7 f hf, fun e he f hf => by rw [zi_cell _ _ (by omega)]; exact d8 e he f hf, fun k hk e he => ?_⟩
  rw [zi_else _ _ (by omega)]
  exact d9 k hk e he
theorem rdX_49 {i : Nat} {x : Int32} (hX : rdX tn tb p g) : rdX tn tb p (zi g 49 i x) := ⟨rdT_mw (W := fun c _ => c = 49) (fun c k q => by omega) (mw_zi (W := fun c _ => c = 49) rfl _ _) hX.1, by rw [zi_else _ _ (by omega)]; exact hX.2.1, hX.2.2⟩
/-- what a line gives: the next token and the draft, or the token that is wrong -/
theorem e_readRow (hO : pOK P) (hN : N < 40) (hA : tkA tn tb s g) (hD : cDf P N r g) : (∀ t' c', rowR P tn tb (pn P) 0 (sk tn tb (te tn tb s)) 0 = .inl (t', c') → ∃ h, nX7_readRow g = some (1, h) ∧ tkA tn tb t' h ∧ cDf P (N + 1) (upA r N c') h ∧ mw wCr g h) ∧ (∀ t', rowR P tn tb (pn P) 0 (sk tn tb (te tn tb s)) 0 = .inr t' → ∃ h, nX7_readRow g = some (0, h) ∧ tkA tn tb t' h ∧ mw wCr g h) := by
  obtain ⟨g1, w, b1, b2⟩ := e_nextA hA
  obtain ⟨i1, i2⟩ := e_row8 (r := r) hO hN (pn P) 0 (sk tn tb (te tn tb s)) 0 g1 (by omega) rOKf_0 b1 (cDf_mw (fun c k q => by unfold wT2 at q; omega) b2 hD)
  unfold nX7_readRow
  rw [w, Option.bind_some]
  refine ⟨fun t' c' e => ?_, fun t' e => ?_⟩
  · obtain ⟨h, w2, x1, x2, x3⟩ := i1 t' c' e
    exact ⟨h, w2, x1, x2, mw_tr (wT2_Cr b2) x3⟩
  · obtain ⟨h, w2, x1, x3⟩ := i2 t' e
    exact ⟨h, w2, x1, mw_tr (wT2_Cr b2) x3⟩
end Rm
