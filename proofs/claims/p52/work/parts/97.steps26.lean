
/-! ===== steps: from, the reference ===== -/
section S26
variable {S S' : zSt} {g h k : zS} {P : zPl}
end S26
