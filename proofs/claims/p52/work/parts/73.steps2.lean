
/-! ===== steps: more queries ===== -/
section S2
variable {g h : zS} {P : zPl} {N : Nat} {r : Nat → Nat}
theorem kDn_Q : ∀ c, (kQ c && kN c) = false → kDn c = false := fun c hc => by
  cases q : kDn c with
  | false => rfl
  | true =>
    unfold kDn at q
    rw [Bool.and_eq_true, decide_eq_true_eq, decide_eq_true_eq] at q
    have hd : ∀ c, c < 37 → 34 ≤ c → (kQ c && kN c) = true := by decide
    rw [hd c (by omega) q.1] at hc
    cases hc
theorem k38_Q : ∀ c, (kQ c && kN c) = false → k38 c = false := fun c hc => by
  cases q : k38 c with
  | false => rfl
  | true => rw [beq_iff_eq.mp q] at hc; cases hc
theorem k389_Q : ∀ c, (kQ c && kN c) = false → k389 c = false := fun c hc => by
  cases q : k389 c with
  | false => rfl
  | true =>
    unfold k389 at q
    rw [Bool.or_eq_true, beq_iff_eq, beq_iff_eq] at q
    rcases q with rfl | rfl <;> cases hc
theorem ls_rgt (hO : pOK P) {c : Nat} (hc : rOK P c) (h : rgt P c = true) : ls P c = 0 := by
  have hf := rgt_full h
  have hw : way P c 0 (fun f => rv c f - 1) := ⟨fun f hfn => (by have := hc.2.1 f hfn; have := hf f hfn; show rv c f - 1 < pq P f; omega), fun f hfn _ => (by have := hf f hfn; show rv c f = rv c f - 1 + 1; omega), by
    unfold rgt at h
    rw [Bool.and_eq_true, beq_iff_eq, beq_iff_eq, lft_full hf] at h
    exact h.2⟩
  have hpos := Nat.two_pow_pos (pn P)
  have hm := (cmd_iff hO hc).mpr ⟨_, hw⟩
  rcases ls_spec hO c with ⟨q1, q2⟩ | ⟨q1, q2, q3⟩
  · rw [q2 0 hpos] at hm; cases hm
  · have h0 := q3 0 hpos hm
    have e1 : wSum P 0 (pn P) = 0 := by
      have go : ∀ n, wSum P 0 n = 0 := by
        intro n
        induction n with
        | zero => rfl
        | succ n ih =>
          show (if (0 : Nat).testBit n then wSum P 0 n + pw P n else wSum P 0 n) = 0
          rw [Nat.zero_testBit, if_neg (by decide)]
          exact ih
      exact go _
    have e2 : pcn 0 = 0 := by decide
    unfold kO at h0
    rw [e1, e2] at h0
    omega
end S2
