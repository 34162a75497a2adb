
/-! ===== steps: box ===== -/
section S20
variable {S S' : zSt} {g h k : zS} {P : zPl}
theorem ly_42 (a : mw Wly g h) (s : Int32) : fr kRf g (zi h 42 0 s) := ly_R (mw_tr a (mw_zi (Or.inl ⟨rfl, Or.inl rfl⟩) _ _))
end S20
