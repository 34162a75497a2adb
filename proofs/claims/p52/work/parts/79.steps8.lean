
/-! ===== steps: write, tried, count ===== -/
section S8
variable {S S' : zSt} {g h k : zS} {P : zPl}
/-- the byte that is written for a field -/
def wrB (c i : Nat) : Nat := if rv c i = 0 then 63 else 47 + rv c i
end S8
