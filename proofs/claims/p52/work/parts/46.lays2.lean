
section Mq
variable {P : zPl} {g : zS}
theorem bS_s (b : Nat → Bool) (n : Nat) : bS b (n + 1) = if b n then bS b n ||| 2 ^ n else bS b n := rfl
end Mq
