
/-! ===== the step of read ===== -/
section S2
variable {S S' : zSt} {g h k : zS} {P : zPl} {W : Nat → Nat → Prop}
theorem mw_frK {K : Nat → Bool} (q : ∀ c k, W c k → K c = true) (a : mw W g h) : fr K g h := ⟨fun c hc => ⟨funext fun k => a.1 c k (fun w => by rw [q c k w] at hc; cases hc), by rw [a.2]⟩, by rw [a.2]; exact id, by rw [a.2]⟩
def kTx (c : Nat) : Bool := decide (c ≤ 1) || (decide (11 ≤ c) && decide (c ≤ 19))
theorem kTx_C : ∀ c k, wCl c k → kTx c = true := fun c k q => by
  have hc : 11 ≤ c ∧ c ≤ 19 := by
    rcases q with q | q | q
    · unfold wCr at q; omega
    · omega
    · omega
  unfold kTx
  rw [decide_eq_true hc.1, decide_eq_true hc.2, Bool.and_self, Bool.or_true]
theorem wCl_0 : ¬ wCl 0 11 := fun w => by
  rcases w with w | w | w
  · unfold wCr at w; omega
  · omega
  · omega
theorem kN_T : ∀ c, kN c = false → kTx c = false := fun c hc => by
  unfold kN at hc
  rw [Bool.or_eq_false_iff, decide_eq_false_iff_not] at hc
  unfold kTx
  rw [Bool.or_eq_false_iff, Bool.and_eq_false_iff, decide_eq_false_iff_not, decide_eq_false_iff_not, decide_eq_false_iff_not]
  omega
theorem kN_F : ∀ c, kN c = false → kFi c = false := fun c hc => by
  unfold kN at hc
  rw [Bool.or_eq_false_iff, decide_eq_false_iff_not] at hc
  unfold kFi
  rw [Bool.or_eq_false_iff, Bool.or_eq_false_iff, Bool.or_eq_false_iff, Bool.and_eq_false_iff, Bool.and_eq_false_iff, decide_eq_false_iff_not, decide_eq_false_iff_not, decide_eq_false_iff_not, decide_eq_false_iff_not, beq_eq_false_iff_ne, beq_eq_false_iff_ne]
  omega
/-- the tape is empty again, the fault is told -/
def tzr (g : zS) (x : Int32) : zS := zi (zi g 1 1 (0 : Int32)) 0 12 x
theorem tzr_fr (g : zS) (x : Int32) : fr (fun c => decide (c ≤ 1)) g (tzr g x) := fr_tr (fr_zi (c := 1) rfl _ _ _) (fr_zi (c := 0) rfl _ _ _)
theorem tzr_c (g : zS) (x : Int32) {c : Nat} (h : 2 ≤ c) : (tzr g x).1 c = g.1 c := by
  unfold tzr
  rw [zi_cell _ _ (by omega), zi_cell _ _ (by omega)]
theorem tzr_11 (g : zS) (x : Int32) : (tzr g x).1 0 11 = g.1 0 11 := by
  unfold tzr
  rw [zi_else _ _ (by decide), zi_else _ _ (by decide)]
theorem tzr_12 (g : zS) (x : Int32) : (tzr g x).1 0 12 = x := zi_at _ _ _ _
theorem tzr_1 (g : zS) (x : Int32) : (tzr g x).1 1 1 = 0 := by
  unfold tzr
  rw [zi_else _ _ (by decide), zi_at]
theorem le_Tx {g h : zS} (a : fr (fun c => decide (c ≤ 1)) g h) : fr kTx g h := fr_le (fun c hc => by
  unfold kTx at hc
  rw [Bool.or_eq_false_iff] at hc
  exact hc.1) a
theorem fI_le {t : Nat} (h : t ≤ 400) : fI t = nI t := by
  unfold fI
  rw [if_neg (by omega)]
end S2
