
/-! ===== the row of found boxes grows ===== -/
def zgrow (σ : zS) : zS := (fun a k => if a = 27 then (if k < σ.2.2.2 then σ.1 27 k else 0) else σ.1 a k, σ.2.1, σ.2.2.1, 2 * σ.2.2.2)
def zgro (σ : zS) : Bool := decide (σ.1 26 3 = nI σ.2.2.2) && (decide (64 ≤ σ.2.2.2) && decide (σ.2.2.2 ≤ 1048576))
theorem zgro_le {σ : zS} {C : Nat} (h : zgro σ = true) (hb : zgr (zgrow σ) C) : zgr σ C := by
  have h2 : 2 * σ.2.2.2 ≤ C := hb
  show σ.2.2.2 ≤ C
  omega
theorem z_grow {x : zXx} {nL F pc : Nat} {ret : Option FieldType} {ls : List (Nat × Value)} {st : List Value} {σ : zS} {A B C : Nat} (hG : zG x cX0_keepChosen nL RX0 ret) (hl0 : (zl0 x).flags = flags0) (hc : zgro σ = true) (hb : zgr (zgrow σ) C) (hk0 : ls[0]? = some (0, .ref 26)) (hok : ls.all (fun q => zok 73 q.2) = true) (hF : 1 ≤ F)
    (d0 : decode cX0_keepChosen pc = .ok (.aload_n 0, 1)) (d1 : decode cX0_keepChosen (pc + 1) = .ok (.aload_n 0, 1)) (d2 : decode cX0_keepChosen (pc + 2) = .ok (.getfield 9, 3)) (d5 : decode cX0_keepChosen (pc + 5) = .ok (.aload_n 0, 1)) (d6 : decode cX0_keepChosen (pc + 6) = .ok (.getfield 37, 3)) (d9 : decode cX0_keepChosen (pc + 9) = .ok (.iconst 2, 1)) (d10 : decode cX0_keepChosen (pc + 10) = .ok (.imul, 1)) (d11 : decode cX0_keepChosen (pc + 11) = .ok (.invokestatic 96, 3)) (d14 : decode cX0_keepChosen (pc + 14) = .ok (.putfield 9, 3))
    (kk : zK x F (pc + 17) ls st zD (zgrow σ) (A + (C / 64 - (zgrow σ).2.2.2 / 64)) (B + 2 * (C - (zgrow σ).2.2.2))) : zK x F pc ls st zD σ (A + (C / 64 - σ.2.2.2 / 64)) (B + 2 * (C - σ.2.2.2)) := by
  sorry
