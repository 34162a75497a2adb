
/-! ===== the sets of the least weight, forced values, the first way ===== -/
theorem wI_eq {w k : Nat} (hw : w < 999) (hk : k ≤ 999) : nI w = wI k ↔ w = k := by
  unfold wI
  split
  · rw [nI_m1, nN_eqm (by omega)]
    exact ⟨False.elim, fun h => by omega⟩
  · exact nN_eq (by omega) (by omega)
/-- the edits' own: FORCED -/
def frc (P : zPl) (c : Nat) : Nat := if ls P c = 99 then 0 else bS (fun f => (ls P c).testBit f && pcn (vIn P c (ls P c) f) == 1) (pn P)
theorem cvS_lt (P : zPl) (E S f : Nat) : cvS P E S f < 2 ^ pq P f := bS_lt _ _
theorem vIn_lt {P : zPl} (hO : pOK P) {c S f : Nat} (hc : rOK P c) (hf : f < pn P) : vIn P c S f < 32 := by
  have h2 := hO.2.1 f hf
  unfold vIn
  split
  · split
    · exact Nat.lt_of_lt_of_le (cvS_lt P _ S f) (Nat.pow_le_pow_right (n := 2) (by omega) (show pq P f ≤ 5 from h2.2.1))
    · have h3 := hc.2.1 f hf
      exact Nat.lt_of_le_of_lt (Nat.pow_le_pow_right (n := 2) (by omega) (show rv c f - 1 ≤ 4 by omega)) (by decide)
  · decide
section Co
variable {P : zPl} {g : zS}
theorem e_countLeast (hO : pOK P) (hP : cP P g) (hE : cE P g) (hC : cC P g) (hL : cL P g) {c : Nat} (hc : rOK P c) : nX5_countLeast (nI c) g = some (nI (cnt (lsB P c) (2 ^ pn P))) := by
  have h7 := p2n hO
  have h5 := hO.1
  have h1p := Nat.one_le_two_pow (n := pn P)
  unfold nX5_countLeast
  rw [e_leastWeight hO hP hE hC hL hc]
  dsimp only [Option.bind_some]
  refine wh_seq (fun i => (nI (cnt (lsB P c) i), nI i)) (2 ^ pn P) (fun i hi => ?_) ?_
  · dsimp only [wX5_countLeast_11]
    rw [e_allFields hO hP]
    dsimp only [Option.bind_some]
    have hw := wSum_le hO i (pn P) (Nat.le_refl _)
    have hlw : lw P c ≤ 999 := by
      unfold lw
      split
      · exact Nat.le_refl _
      · have := wSum_le hO (ls P c) (pn P) (Nat.le_refl _)
        omega
    rw [if_neg (by rw [nN_lt (by omega) (by omega)]; omega), e_weightOf hO hP, nI_s, nI_s, cnt_s]
    dsimp only [Option.bind_some]
    unfold lsB
    by_cases h : wSum P i (pn P) = lw P c
    · rw [if_pos ((wI_eq (by omega) hlw).mpr h), e_canMend hO hP hE hC hc hi]
      dsimp only [Option.bind_some]
      rw [h, beq_self_eq_true, Bool.true_and]
      cases cmd P c i <;> rfl
    · rw [if_neg (fun q => h ((wI_eq (by omega) hlw).mp q)), if_neg (by simp [h])]
  · dsimp only [wX5_countLeast_11]
    rw [e_allFields hO hP]
    dsimp only [Option.bind_some]
    rw [if_pos (by rw [nN_lt (by omega) (by omega)]; omega)]
    rfl
theorem e_leastAt (hO : pOK P) (hP : cP P g) (hE : cE P g) (hC : cC P g) (hL : cL P g) {c : Nat} (hc : rOK P c) (k : Int32) : nX5_leastAt (nI c) k g = some (kth (lsB P c) (2 ^ pn P) k) := by
  have h7 := p2n hO
  have h5 := hO.1
  have h1p := Nat.one_le_two_pow (n := pn P)
  have hlw : lw P c ≤ 999 := by
    unfold lw
    split
    · exact Nat.le_refl _
    · have := wSum_le hO (ls P c) (pn P) (Nat.le_refl _)
      omega
  unfold nX5_leastAt
  rw [e_leastWeight hO hP hE hC hL hc]
  dsimp only [Option.bind_some]
  have body : ∀ i, i < 2 ^ pn P → wX5_leastAt_12 (nI c) k (wI (lw P c)) g (nI (cnt (lsB P c) i), nI i) = if (lsB P c i && decide (nI (cnt (lsB P c) i) = k)) = true then some (.inr (nI i)) else some (.inl (nI (cnt (lsB P c) (i + 1)), nI (i + 1))) := by
    intro i hi
    have hw := wSum_le hO i (pn P) (Nat.le_refl _)
    dsimp only [wX5_leastAt_12]
    rw [e_allFields hO hP]
    dsimp only [Option.bind_some]
    rw [if_neg (by rw [nN_lt (by omega) (by omega)]; omega), e_weightOf hO hP, nI_s, nI_s, cnt_s]
    dsimp only [Option.bind_some]
    unfold lsB
    by_cases h : wSum P i (pn P) = lw P c
    · rw [if_pos ((wI_eq (by omega) hlw).mpr h), e_canMend hO hP hE hC hc hi]
      dsimp only [Option.bind_some]
      rw [h, beq_self_eq_true, Bool.true_and]
      cases cmd P c i with
      | false =>
        rw [if_pos (show (if false = true then (1 : Int32) else 0) = 0 from rfl), Bool.false_and]
        rfl
      | true =>
        rw [if_neg (show ¬ (if true = true then (1 : Int32) else 0) = 0 by decide), Bool.true_and]
        by_cases hk : nI (cnt (fun S => wSum P S (pn P) == lw P c && cmd P c S) i) = k
        · rw [if_pos hk, if_pos (decide_eq_true hk)]
          rfl
        · rw [if_neg hk, if_neg (by rw [decide_eq_true_eq]; exact hk)]
          rfl
    · rw [if_neg (fun q => h ((wI_eq (by omega) hlw).mp q))]
      have hb : (wSum P i (pn P) == lw P c) = false := by simpa using h
      rw [hb, Bool.false_and, Bool.false_and]
      rfl
  rcases firstB (fun i => lsB P c i && decide (nI (cnt (lsB P c) i) = k)) (2 ^ pn P) with h | ⟨j, hj, h1, h2⟩
  · rw [kth_none _ h]
    refine wh_seq (fun i => (nI (cnt (lsB P c) i), nI i)) (2 ^ pn P) (fun i hi => ?_) ?_
    · rw [body i hi, if_neg (by rw [h i hi]; simp)]
    · dsimp only [wX5_leastAt_12]
      rw [e_allFields hO hP]
      dsimp only [Option.bind_some]
      rw [if_pos (by rw [nN_lt (by omega) (by omega)]; omega)]
      rfl
  · rw [kth_some h1 _ (by omega) hj]
    refine wh_seq (fun i => (nI (cnt (lsB P c) i), nI i)) j (fun i hi => ?_) ?_
    · rw [body i (by omega), if_neg (by rw [h2 i hi]; simp)]
    · rw [body j hj, if_pos h1]
theorem e_forcedIn (hO : pOK P) (hP : cP P g) (hE : cE P g) (hC : cC P g) (hL : cL P g) {c : Nat} (hc : rOK P c) : nX5_forcedIn (nI c) g = some (nI (frc P c)) := by
  have h7 := p2n hO
  have h5 := hO.1
  unfold nX5_forcedIn
  rw [e_leastSet hO hP hE hC hL hc]
  dsimp only [Option.bind_some]
  unfold frc sI
  rcases ls_spec hO c with ⟨h1, h2⟩ | ⟨h1, h2, h3⟩
  · rw [h1, if_pos rfl, if_pos rfl]
    refine wh_out ?_
    dsimp only [wX5_forcedIn_11]
    rw [hP.1]
    by_cases h : nI (pn P) ≤ 0
    · rw [if_pos h]
      rfl
    · rw [if_neg h, if_pos rfl]
      rfl
  · have hne : ¬ ls P c = 99 := by omega
    rw [if_neg hne, if_neg hne]
    refine wh_seq (fun i => (nI (bS (fun f => (ls P c).testBit f && pcn (vIn P c (ls P c) f) == 1) i), nI i)) (pn P) (fun i hi => ?_) ?_
    · dsimp only [wX5_forcedIn_11]
      have e1 : ¬ nI (ls P c) = -1 := fun q => by
        rw [nI_m1, nN_eqm (by omega)] at q
        exact q
      rw [hP.1, if_neg (by rw [nN_le (by omega) (by omega)]; omega), if_neg e1, nI_s, bS]
      by_cases h : (ls P c).testBit i = true
      · rw [if_neg (fun q => by rw [(nI_bitg (by omega)).mp q] at h; cases h), e_valuesIn hO hP hE hC hc h1 hi]
        dsimp only [Option.bind_some]
        have hv := vIn_lt hO (S := ls P c) hc hi
        have hpc : ∀ k, k < 64 → pcn k ≤ 6 := by decide
        have hp := hpc (vIn P c (ls P c) i) (by omega)
        rw [e_bitCount (by omega)]
        dsimp only [Option.bind_some]
        rw [h, Bool.true_and]
        by_cases h9 : pcn (vIn P c (ls P c) i) = 1
        · rw [if_pos (by rw [h9]; rfl), if_pos (by simp [h9]), nI_shl (by omega), nI_or]
        · rw [if_neg (fun q : nI (pcn (vIn P c (ls P c) i)) = (1 : Int32) => h9 ((nN_eq (b := 1) (by omega) (by omega)).mp q)), if_neg (by simp [h9])]
      · have h : (ls P c).testBit i = false := by simpa using h
        rw [if_pos ((nI_bitg (by omega)).mpr h), h, Bool.false_and, if_neg (by simp)]
    · dsimp only [wX5_forcedIn_11]
      rw [if_pos (by rw [hP.1]; exact Int32.le_refl _)]
      rfl
/-- the lowest of some values; 9: none -/
def low (V : Nat) : Nat := foN (fun v b => if V.testBit v && b == 9 then v else b) 5 9
theorem low_spec {V : Nat} : (low V = 9 ∧ ∀ v, v < 5 → V.testBit v = false) ∨ (low V < 5 ∧ V.testBit (low V) = true ∧ ∀ v, v < low V → V.testBit v = false) := by
  have h : ∀ n, n ≤ 5 → (foN (fun v b => if V.testBit v && b == 9 then v else b) n 9 = 9 ∧ ∀ v, v < n → V.testBit v = false) ∨ (foN (fun v b => if V.testBit v && b == 9 then v else b) n 9 < n ∧ V.testBit (foN (fun v b => if V.testBit v && b == 9 then v else b) n 9) = true ∧ ∀ v, v < foN (fun v b => if V.testBit v && b == 9 then v else b) n 9 → V.testBit v = false) := by
    intro n
    induction n with
    | zero => intro _; exact Or.inl ⟨rfl, fun v hv => absurd hv (Nat.not_lt_zero v)⟩
    | succ n ih =>
      intro hn
      have e : foN (fun v b => if V.testBit v && b == 9 then v else b) (n + 1) 9 = if V.testBit n && foN (fun v b => if V.testBit v && b == 9 then v else b) n 9 == 9 then n else foN (fun v b => if V.testBit v && b == 9 then v else b) n 9 := rfl
      rw [e]
      generalize foN (fun v b => if V.testBit v && b == 9 then v else b) n 9 = b at ih ⊢
      rcases ih (by omega) with ⟨h1, h2⟩ | ⟨h1, h2, h3⟩
      · subst h1
        cases hb : V.testBit n with
        | false =>
          refine Or.inl ⟨rfl, fun v hv => ?_⟩
          by_cases hvn : v = n
          · rw [hvn]; exact hb
          · exact h2 v (by omega)
        | true =>
          refine Or.inr ?_
          show n < n + 1 ∧ V.testBit n = true ∧ ∀ v, v < n → V.testBit v = false
          exact ⟨Nat.lt_succ_self n, hb, h2⟩
      · have h9 : (b == 9) = false := by
          rw [beq_eq_false_iff_ne]
          omega
        rw [h9, Bool.and_false, if_neg (by simp)]
        exact Or.inr ⟨by omega, h2, h3⟩
  exact h 5 (Nat.le_refl 5) |>.imp (fun h => h) (fun h => ⟨h.1, h.2.1, h.2.2⟩)
theorem e_lowestOf {V : Nat} : nX5_lowestOf (nI V) = some (if low V = 9 then -1 else nI (low V)) := by
  have step : ∀ i, i < 5 → V.testBit i = false → wX5_lowestOf_2 (nI V) (nI i) = some (.inl (nI (i + 1))) := by
    intro i hi h
    dsimp only [wX5_lowestOf_2]
    rw [if_neg (by rw [show (5 : Int32) = nI 5 from rfl, nN_le (by omega) (by omega)]; omega), if_pos ((nI_bitg (by omega)).mpr h), nI_s]
  unfold nX5_lowestOf
  rcases low_spec (V := V) with ⟨h1, h2⟩ | ⟨h1, h2, h3⟩
  · rw [if_pos h1]
    refine wh_seq (fun i => nI i) 5 (fun i hi => step i hi (h2 i hi)) ?_
    dsimp only [wX5_lowestOf_2]
    rw [if_pos (show (5 : Int32) ≤ nI 5 from Int32.le_refl _)]
    rfl
  · rw [if_neg (by omega)]
    refine wh_seq (fun i => nI i) (low V) (fun i hi => step i (by omega) (h3 i hi)) ?_
    dsimp only [wX5_lowestOf_2]
    rw [if_neg (by rw [show (5 : Int32) = nI 5 from rfl, nN_le (by omega) (by omega)]; omega), if_neg (fun q => by rw [(nI_bitg (by omega)).mp q] at h2; cases h2)]
    rfl
/-- the row, what is open and what is left of the set, behind the fields below n -/
def fwN (P : zPl) (c E S : Nat) (n : Nat) : Nat × Nat × Nat := foN (fun f a => if a.2.2.testBit f then (wa a.1 f (low (cvS P a.2.1 a.2.2 f) + 1), a.2.1 &&& pT P f (low (cvS P a.2.1 a.2.2 f)), sdl a.2.2 f) else a) n (c, E, S)
theorem fwN_s (P : zPl) (c E S n : Nat) : fwN P c E S (n + 1) = if (fwN P c E S n).2.2.testBit n then (wa (fwN P c E S n).1 n (low (cvS P (fwN P c E S n).2.1 (fwN P c E S n).2.2 n) + 1), (fwN P c E S n).2.1 &&& pT P n (low (cvS P (fwN P c E S n).2.1 (fwN P c E S n).2.2 n)), sdl (fwN P c E S n).2.2 n) else fwN P c E S n := rfl
end Co
