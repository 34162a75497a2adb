
/-! ===== read: an edit's line, the reference ===== -/
section Em
variable {g h k : zS} {tn : Nat} {tb : Nat → Nat} {s p : Nat} {P : zPl} {N : Nat} {r : Nat → Nat}
theorem mDf_48 {f : Nat} {x : Int32} (h5 : pn P ≤ 5) (d : mDf P N r g) : mDf P N r (zi g 48 (5 * pm P + f) x) := by
  obtain ⟨d0, d1, d2, d3, d4, d5, d6, d7, d8, d9⟩ := d
  refine ⟨by rw [zi_else _ _ (by omega)]; exact d0, by rw [zi_else _ _ (by omega)]; exact d1, by rw [zi_else _ _ (by omega)]; exact d2, by rw [zi_else _ _ (by omega)]; exact d3, d4, fun f hf => by rw [zi_cell _ _ (by omega)]; exact d5 f hf, fun f hf => by rw [zi_cell _ _ (by omega)]; exact d6 f hf, fun f hf => by rw [zi_cell _ _ (by omega)]; exact d7 f hf, fun e he e2 he2 => by rw [zi_else _ _ (by omega)]; exact d8 e he e2 he2, fun k hk e he => by rw [zi_cell _ _ (by omega)]; exact d9 k hk e he⟩
theorem rdX_48 {i : Nat} {x : Int32} (hX : rdX tn tb p g) : rdX tn tb p (zi g 48 i x) := ⟨rdT_mw (W := fun c _ => c = 48) (fun c k q => by omega) (mw_zi (W := fun c _ => c = 48) rfl _ _) hX.1, by rw [zi_else _ _ (by omega)]; exact hX.2.1, hX.2.2⟩
theorem spR_le {hi : Nat} : ∀ {k t m t'}, t ≤ tn → spR tn tb hi k t m = .inr t' → t' ≤ tn
  | 0, t, m, t', ht, e => by
    have := Sum.inr.inj e
    omega
  | k + 1, t, m, t', ht, e => by
    have next : ∀ {s : Nat}, s ≤ tn → sk tn tb (te tn tb s) ≤ tn := fun {s} hs => (sk_le (te_le hs).2.1).2
    have cont : ∀ {v u t m}, t ≤ tn → spA tn tb (spR tn tb hi k) v u t m = .inr t' → t' ≤ tn := fun {v u t m} h e => by
      unfold spA at e
      by_cases q : chr tn tb t = 44
      · rw [if_pos q] at e; exact spR_le (next h) e
      · rw [if_neg q] at e; cases e
    unfold spR at e
    by_cases d : dgO tn tb t 0 hi
    · rw [if_pos d] at e
      by_cases q : chr tn tb (sk tn tb (te tn tb t)) = 45
      · rw [if_pos q] at e
        by_cases d2 : dgO tn tb (sk tn tb (te tn tb (sk tn tb (te tn tb t)))) (tb t - 48) hi
        · rw [if_pos d2] at e
          exact cont (next (next (next ht))) e
        · rw [if_neg d2] at e
          have := Sum.inr.inj e
          have := next (next ht)
          omega
      · rw [if_neg q] at e
        exact cont (next ht) e
    · rw [if_neg d] at e
      have := Sum.inr.inj e
      omega
end Em
