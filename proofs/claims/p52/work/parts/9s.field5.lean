
/-! ===== read: a field's line, the reference ===== -/
section Fp
variable {g h k : zS} {tn : Nat} {tb : Nat → Nat} {s p t : Nat} {P : zPl} {N : Nat} {r : Nat → Nat}
/-- the draft and what stands of the new field -/
def fdM (P : zPl) (r : Nat → Nat) (tn : Nat) (tb : Nat → Nat) (t sc : Nat) (g : zS) : Prop := mDf P 0 r g ∧ g.2.1 44 (pn P) = nL (nmL (wd tn tb t)) ∧ g.1 47 (pn P) = nI sc
theorem fdM_mw {W : Nat → Nat → Prop} {sc : Nat} (q : ∀ c k, W c k → (c < 44 ∨ 49 < c) ∧ (c = 42 → k < 6 ∨ 9 < k)) (a : mw W g h) (d : fdM P r tn tb t sc g) : fdM P r tn tb t sc h := ⟨mDf_mw q a d.1, by rw [a.2]; exact d.2.1, by rw [a.1 47 _ (fun w => by have := (q _ _ w).1; omega)]; exact d.2.2⟩
theorem fd_end (hm0 : pm P = 0) {q w sc : Nat} (hX : rdX tn tb p g) (hM : fdM P r tn tb t sc g) (h5 : g.1 42 5 = -1) (hq : g.1 45 (pn P) = nI q) : ∃ h, h = zi (zi g 46 (pn P) (nI w)) 42 6 (nI (pn P + 1)) ∧ rdX tn tb p h ∧ h.1 42 5 = -1 ∧ mDf (wF P q w sc (wd tn tb t)) 0 r h ∧ mw wRd g h := by
  obtain ⟨⟨d0, d1, d2, d3, d4, d5, d6, d7, d8, d9⟩, e1, e2⟩ := hM
  have m : mw (fun c k => c = 46 ∨ (c = 42 ∧ k = 6)) g (zi (zi g 46 (pn P) (nI w)) 42 6 (nI (pn P + 1))) := mw_tr (mw_zi (W := fun c k => c = 46 ∨ (c = 42 ∧ k = 6)) (Or.inl rfl) _ _) (mw_zi (W := fun c k => c = 46 ∨ (c = 42 ∧ k = 6)) (Or.inr ⟨rfl, rfl⟩) _ _)
  refine ⟨_, rfl, ⟨rdT_mw (fun c k q => by omega) m hX.1, by rw [m.1 42 4 (by omega)]; exact hX.2.1, hX.2.2⟩, by rw [m.1 42 5 (by omega)]; exact h5, ⟨zi_at _ _ _ _, by rw [m.1 42 7 (by omega)]; exact d1, by rw [m.1 42 8 (by omega)]; exact d2, by rw [m.1 42 9 (by omega)]; exact d3, fun f hf => ?_, fun f hf => ?_, fun f hf => ?_, fun f hf => ?_, fun e he f hf => ?_, fun k hk => by omega⟩, mw_le (fun c k q => by unfold wRd; omega) m⟩
  · have hf' : f < pn P + 1 := hf
    show g.2.1 44 f = nL (nmL (if f = pn P then wd tn tb t else pl P f))
    by_cases c : f = pn P
    · rw [if_pos c, c]; exact e1
    · rw [if_neg c]; exact d4 f (by omega)
  · have hf' : f < pn P + 1 := hf
    show _ = nI (if f = pn P then q else pq P f)
    rw [m.1 45 f (by omega)]
    by_cases c : f = pn P
    · rw [if_pos c, c]; exact hq
    · rw [if_neg c]; exact d5 f (by omega)
  · have hf' : f < pn P + 1 := hf
    show _ = nI (if f = pn P then w else pw P f)
    rw [zi_cell _ _ (by omega)]
    by_cases c : f = pn P
    · rw [if_pos c, c, zi_at]
    · rw [if_neg c, zi_else _ _ (by omega)]; exact d6 f (by omega)
  · have hf' : f < pn P + 1 := hf
    show _ = nI (if f = pn P then sc else ps P f)
    rw [m.1 47 f (by omega)]
    by_cases c : f = pn P
    · rw [if_pos c, c]; exact e2
    · rw [if_neg c]; exact d7 f (by omega)
  · have he' : e < pm P := he
    omega
end Fp
