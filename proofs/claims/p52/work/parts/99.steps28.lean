
/-! ===== steps: cover, the reference ===== -/
section S28
variable {S S' : zSt} {g h k : zS} {P : zPl}
end S28
