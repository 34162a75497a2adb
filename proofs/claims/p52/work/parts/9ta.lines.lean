
/-! ===== read: one line of both ===== -/
section Lo
variable {g h k : zS} {tn : Nat} {tb : Nat → Nat} {s p t : Nat} {P : zPl} {N : Nat} {r : Nat → Nat}
theorem m5l (k : zS) (x : Int32) : mwl wRd k (zi k 42 5 x) := mwl_mw (mw_zi (Or.inl ⟨rfl, Or.inr ⟨by omega, by omega⟩⟩) _ _)
theorem flg_mw {W : Nat → Nat → Prop} (q : ∀ c k, W c k → ¬ (c = 19 ∧ k = 4)) (a : mw W g h) (d : flg P N g) : flg P N h := by
  unfold flg at d ⊢
  rw [a.1 19 4 (fun w => q _ _ w ⟨rfl, rfl⟩)]
  exact d
theorem wCr_4 : ∀ c k, wCr c k → ¬ (c = 19 ∧ k = 4) := fun c k q => by unfold wCr at q; omega
theorem e_lineNo (hA : tkA tn tb s g) (hD : cDf P N r g) (hw : wd tn tb s ≠ wdL 0) (hp0 : pn P = 0) : nX7_readLine g = some (0, g) := by
  unfold nX7_readLine
  rw [e_isWord_900 hA, if_neg hw, Option.bind_some, if_pos rfl, hD.1, hp0, if_pos (show nI 0 = (0 : Int32) from rfl)]
end Lo
