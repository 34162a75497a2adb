
/-! ===== the reference: urgent rows ===== -/
section Ur
variable {P : zPl} {g : zS} {N : Nat} {r : Nat → Nat}
/-- the reference's weight of a row's least set -/
def mwr (P : zPl) (c : Nat) : Nat := if rgt P c then wSum P 0 (pn P) else if ls P c = 99 then 1000000000 else wSum P (ls P c) (pn P)
def mfl (P : zPl) (c : Nat) : Nat := pcn (lft P c 0 (pn P))
theorem mwr_le (hO : pOK P) (c : Nat) : mwr P c ≤ 1000000000 := by
  have h5 := hO.1
  unfold mwr
  split
  · have := wSum_le hO 0 (pn P) (Nat.le_refl _); omega
  · split
    · omega
    · have := wSum_le hO (ls P c) (pn P) (Nat.le_refl _); omega
/-- a row is more urgent than another one -/
def ahB (P : zPl) (r : Nat → Nat) (o i : Nat) : Bool := if mfl P (r o) = mfl P (r i) then (if mwr P (r o) = mwr P (r i) then decide (o < i) else decide (mwr P (r i) < mwr P (r o))) else decide (mfl P (r i) < mfl P (r o))
/-- the class ranks rows as the reference does -/
theorem rk_ah (hO : pOK P) {o i : Nat} (hi : rgt P (r i) = false) : rkB (fun k => urg P (r k)) i o = (!(o == i) && (!rgt P (r o) && ahB P r o i)) := by
  have h5 := hO.1
  have l1 := lw_le hO (r o)
  have l2 := lw_le hO (r i)
  have w1 := wSum_le hO (ls P (r o)) (pn P) (Nat.le_refl _)
  have w2 := wSum_le hO (ls P (r i)) (pn P) (Nat.le_refl _)
  have u2 : urg P (r i) = mfl P (r i) * 64 + (if lw P (r i) = 999 then 63 else lw P (r i)) + 1 := by
    unfold urg
    rw [hi, if_neg (by decide)]
    rfl
  have m2 : (lw P (r i) = 999 ∧ mwr P (r i) = 1000000000) ∨ (lw P (r i) ≠ 999 ∧ mwr P (r i) = lw P (r i) ∧ lw P (r i) ≤ 45) := by
    unfold mwr lw
    rw [hi, if_neg (show ¬ false = true by decide)]
    by_cases q : ls P (r i) = 99
    · rw [if_pos q, if_pos q]; exact Or.inl ⟨rfl, rfl⟩
    · rw [if_neg q, if_neg q]; exact Or.inr ⟨by omega, rfl, by omega⟩
  show (decide (urg P (r i) < urg P (r o)) || (decide (o < i) && urg P (r o) == urg P (r i))) = _
  by_cases hoi : o = i
  · subst hoi
    rw [decide_eq_false (Nat.lt_irrefl _), decide_eq_false (Nat.lt_irrefl _), beq_self_eq_true o]
    rfl
  · rw [show (o == i) = false by simp [hoi], Bool.not_false, Bool.true_and]
    cases ho : rgt P (r o) with
    | true =>
      have u1 : urg P (r o) = 0 := by unfold urg; rw [ho, if_pos rfl]
      rw [u1, Bool.not_true, Bool.false_and, decide_eq_false (Nat.not_lt_zero _), Bool.false_or, show (0 == urg P (r i)) = false by rw [beq_eq_false_iff_ne]; omega, Bool.and_false]
    | false =>
      have u1 : urg P (r o) = mfl P (r o) * 64 + (if lw P (r o) = 999 then 63 else lw P (r o)) + 1 := by
        unfold urg
        rw [ho, if_neg (by decide)]
        rfl
      have m1 : (lw P (r o) = 999 ∧ mwr P (r o) = 1000000000) ∨ (lw P (r o) ≠ 999 ∧ mwr P (r o) = lw P (r o) ∧ lw P (r o) ≤ 45) := by
        unfold mwr lw
        rw [ho, if_neg (show ¬ false = true by decide)]
        by_cases q : ls P (r o) = 99
        · rw [if_pos q, if_pos q]; exact Or.inl ⟨rfl, rfl⟩
        · rw [if_neg q, if_neg q]; exact Or.inr ⟨by omega, rfl, by omega⟩
      rw [Bool.not_false, Bool.true_and]
      have e : (urg P (r i) < urg P (r o) ∨ (o < i ∧ urg P (r o) = urg P (r i))) ↔ ahB P r o i = true := by
        unfold ahB
        rw [u1, u2]
        by_cases c1 : mfl P (r o) = mfl P (r i)
        · rw [if_pos c1]
          by_cases c2 : mwr P (r o) = mwr P (r i)
          · rw [if_pos c2, decide_eq_true_eq]
            rcases m1 with ⟨a1, a2⟩ | ⟨a1, a2, a3⟩ <;> rcases m2 with ⟨b1, b2⟩ | ⟨b1, b2, b3⟩
            · rw [if_pos a1, if_pos b1]; omega
            · omega
            · omega
            · rw [if_neg a1, if_neg b1]; omega
          · rw [if_neg c2, decide_eq_true_eq]
            rcases m1 with ⟨a1, a2⟩ | ⟨a1, a2, a3⟩ <;> rcases m2 with ⟨b1, b2⟩ | ⟨b1, b2, b3⟩
            · omega
            · rw [if_pos a1, if_neg b1]; omega
            · rw [if_neg a1, if_pos b1]; omega
            · rw [if_neg a1, if_neg b1]; omega
        · rw [if_neg c1, decide_eq_true_eq]
          have x1 : (if lw P (r o) = 999 then 63 else lw P (r o)) ≤ 63 := by
            rcases m1 with ⟨a1, a2⟩ | ⟨a1, a2, a3⟩
            · rw [if_pos a1]; omega
            · rw [if_neg a1]; omega
          have x2 : (if lw P (r i) = 999 then 63 else lw P (r i)) ≤ 63 := by
            rcases m2 with ⟨a1, a2⟩ | ⟨a1, a2, a3⟩
            · rw [if_pos a1]; omega
            · rw [if_neg a1]; omega
          omega
      rw [Bool.eq_iff_iff, Bool.or_eq_true, decide_eq_true_eq, Bool.and_eq_true, decide_eq_true_eq, beq_iff_eq]
      exact e
end Ur
