
/-! ===== steps: mendAll, trial ===== -/
section S16
variable {S S' : zSt} {g h k : zS} {P : zPl} {N K : Nat} {r : Nat → Nat} {hN : Nat → Nat} {hr : Nat → Nat → Nat}
/-- the rows after mendAll; how many it mends -/
def wRo (P : zPl) (r : Nat → Nat) (N w k : Nat) : Nat := if mdd P r N k w = 99999 then r k else mdd P r N k w
def wB (P : zPl) (r : Nat → Nat) (N w k : Nat) : Bool := !rgt P (r k) && decide (mdd P r N k w ≠ 99999)
theorem mdd_rgt {k w : Nat} (h : rgt P (r k) = true) : mdd P r N k w = r k := by unfold mdd; rw [if_pos h]
theorem wRo_ok (hO : pOK P) {k w : Nat} (hk : k < N) (hr : ∀ k, k < N → rOK P (r k)) : rOK P (wRo P r N w k) := by
  unfold wRo
  by_cases q : mdd P r N k w = 99999
  · rw [if_pos q]; exact hr k hk
  · rw [if_neg q]; exact (mdd_ok hO hk hr q).1
theorem wRo_no {k w : Nat} (h : wB P r N w k = false) : wRo P r N w k = r k := by
  unfold wB at h
  unfold wRo
  rw [Bool.and_eq_false_iff, Bool.not_eq_false', decide_eq_false_iff_not, Decidable.not_not] at h
  by_cases q : mdd P r N k w = 99999
  · rw [if_pos q]
  · rw [if_neg q]; exact mdd_rgt (h.resolve_right q)
def kAs (c : Nat) : Bool := (decide (34 ≤ c) && decide (c ≤ 36)) || c == 40
theorem kDn_As (a : fr kDn g h) : fr kAs g h := fr_le (fun c hc => by unfold kAs at hc; rw [Bool.or_eq_false_iff] at hc; exact hc.1) a
theorem kAs_Q : ∀ c, (kQ c && kN c) = false → kAs c = false := fun c hc => by
  unfold kQ kN at hc
  unfold kAs
  simp only [Bool.and_eq_false_iff, Bool.or_eq_false_iff, beq_eq_false_iff_ne, decide_eq_false_iff_not] at hc ⊢
  omega
/-- what the reference wants -/
def mWt (P : zPl) (r : Nat → Nat) (N w k : Nat) : Int32 := if wB P r N w k then nI (fno (fun f => rv (mdd P r N k w) f - 1) (pn P)) else -1
theorem mWt_no {i w : Nat} (h : wB P r N w i = false) : mWt P r N w i = -1 := by unfold mWt; rw [h, if_neg (by decide)]
theorem mWt_yes (hO : pOK P) {i w : Nat} (hi : i < N) (hr : ∀ k, k < N → rOK P (r k)) (h : wB P r N w i = true) : mWt P r N w i = nI (fno (fun f => rv (wRo P r N w i) f - 1) (pn P)) ∧ mWt P r N w i ≠ -1 ∧ rOK P (wRo P r N w i) ∧ (∀ f, f < pn P → rv (wRo P r N w i) f ≠ 0) := by
  have h5 := hO.1
  have q : mdd P r N i w ≠ 99999 := by
    unfold wB at h
    rw [Bool.and_eq_true, decide_eq_true_eq] at h
    exact h.2
  obtain ⟨o1, o2⟩ := mdd_ok hO hi hr q
  have e : wRo P r N w i = mdd P r N i w := if_neg q
  have e2 : mWt P r N w i = nI (fno (fun f => rv (mdd P r N i w) f - 1) (pn P)) := if_pos h
  have hlt := (vo_fno (a := fun f => rv (mdd P r N i w) f - 1) h5 (fun e he => by have := o1.2.1 e he; have := (hO.2.1 e he).2.1; omega)).1
  rw [e, e2]
  exact ⟨rfl, fun q => by rw [nI_m1, nN_eqm (by omega)] at q; exact q, o1, o2⟩
end S16
