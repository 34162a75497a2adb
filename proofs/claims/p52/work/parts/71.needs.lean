
/-! ===== what the face asks of its numbers, on both sides ===== -/
section Nd
variable {S : zSt} {g h : zS} {P : zPl} {N : Nat}
/-- a number is none of the first n -/
def nIx (a : Int32) (n : Nat) : Prop := a < 0 ∨ (¬ a < 0 ∧ nI n ≤ a)
theorem ix2 (a : Int32) {n : Nat} (hn : n < 2147483648) : (∃ k, k < n ∧ a = nI k) ∨ nIx a n := ix_dec a hn
theorem nIx_lt {a : Int32} {n : Nat} (hno : nIx a n) : ¬ (¬ a < 0 ∧ a < nI n) := fun q => by
  rcases hno with k | ⟨_, k⟩
  · exact q.1 k
  · exact absurd q.2 (Int32.not_lt.mpr k)
theorem c_needRow {r : Nat → Nat} (hR : rR P N r g) {k : Nat} (hk : k < N) : nX10_needRow (nI k) g = some (.inl ()) := by
  have := hR.2.1
  unfold nX10_needRow
  rw [if_neg (nI_nn (by omega)), hR.1, if_pos ((nN_lt (by omega) (by omega)).mpr hk)]
theorem c_needRowN {r : Nat → Nat} (hR : rR P N r g) {a : Int32} (ha : nIx a N) : nX10_needRow a g = some (.inr "java/lang/IndexOutOfBoundsException") := by
  unfold nX10_needRow jX10_needRow_15
  rw [hR.1]
  by_cases c : a < 0
  · rw [if_pos c]
  · rw [if_neg c, if_neg (fun q => nIx_lt ha ⟨c, q⟩)]
theorem c_needField (hO : pOK P) (hP : cP P g) {k : Nat} (hk : k < pn P) : nX10_needField (nI k) g = some (.inl ()) := by
  have := hO.1
  unfold nX10_needField
  rw [if_neg (nI_nn (by omega)), hP.1, if_pos ((nN_lt (by omega) (by omega)).mpr hk)]
theorem c_needFieldN (hP : cP P g) {a : Int32} (ha : nIx a (pn P)) : nX10_needField a g = some (.inr "java/lang/IndexOutOfBoundsException") := by
  unfold nX10_needField jX10_needField_15
  rw [hP.1]
  by_cases c : a < 0
  · rw [if_pos c]
  · rw [if_neg c, if_neg (fun q => nIx_lt ha ⟨c, q⟩)]
theorem c_needSet (hO : pOK P) (hP : cP P g) {k : Nat} (hk : k < 2 ^ pn P) : nX10_needSet (nI k) g = some (.inl ()) := by
  have := p2n hO
  unfold nX10_needSet
  rw [if_neg (nI_nn (by omega)), e_allFields hO hP, Option.bind_some, if_pos ((nN_le (by omega) (by omega)).mpr (by omega))]
theorem c_needSetN (hO : pOK P) (hP : cP P g) {a : Int32} (ha : nIx a (2 ^ pn P)) : nX10_needSet a g = some (.inr "java/lang/IllegalArgumentException") := by
  have h7 := p2n hO
  have hpos := Nat.two_pow_pos (pn P)
  unfold nX10_needSet jX10_needSet_15
  by_cases c : a < 0
  · rw [if_pos c]
  · rw [if_neg c, e_allFields hO hP, Option.bind_some, if_neg]
    intro q
    have h2 : nI (2 ^ pn P) ≤ a := by
      rcases ha with k | k
      · exact absurd k c
      · exact k.2
    have h3 := Int32.le_trans h2 q
    rw [nN_le (by omega) (by omega)] at h3
    omega
theorem c_needWay {k : Nat} (hk : k < 3) : nX10_needWay (nI k) = some (.inl ()) := by
  unfold nX10_needWay
  rw [if_neg (nI_nn (by omega)), if_pos (show nI k ≤ (2 : Int32) from (nN_le (b := 2) (by omega) (by omega)).mpr (by omega))]
theorem c_needWayN {a : Int32} (ha : nIx a 3) : nX10_needWay a = some (.inr "java/lang/IllegalArgumentException") := by
  unfold nX10_needWay jX10_needWay_9
  by_cases c : a < 0
  · rw [if_pos c]
  · rw [if_neg c, if_neg]
    intro q
    have h2 : nI 3 ≤ a := by
      rcases ha with k | k
      · exact absurd k c
      · exact k.2
    exact absurd (Int32.le_trans h2 q) (by decide)
theorem c_needAnswers (hO : pOK P) (hP : cP P g) {r : Nat → Nat} (hR : rR P N r g) {k S : Nat} (hk : k < N) (hS : mSb (r k) S (pn P) = true) : nX10_needAnswers (nI k) (nI S) g = some (.inl ()) := by
  unfold nX10_needAnswers
  rw [e_codeOf hR hk, Option.bind_some, hP.1, e_missingIn (hR.2.2 k hk).2.1 hO.1, Option.bind_some, if_pos ((m_miss hO).mpr hS)]
theorem c_needAnswersN (hO : pOK P) (hP : cP P g) {r : Nat → Nat} (hR : rR P N r g) {k S : Nat} (hk : k < N) (hS : mSb (r k) S (pn P) = false) : nX10_needAnswers (nI k) (nI S) g = some (.inr "java/lang/IllegalStateException") := by
  unfold nX10_needAnswers
  rw [e_codeOf hR hk, Option.bind_some, hP.1, e_missingIn (hR.2.2 k hk).2.1 hO.1, Option.bind_some, if_neg (fun q => by rw [(m_miss hO).mp q] at hS; cases hS)]
/-- the class's answers in the law -/
theorem kQN_zl {v : Int64} : fr (fun c => kQ c && kN c) g (zl g 72 (0 : Int32).toNatClampNeg v) := fr_zl rfl _ _ _
theorem cQ_l {X : zS → Option (Int32 ⊕ String)} {E : String → zS → Option (Int32 × zS)} {w : Int32} (q : X g = some (.inl w)) : cQ (fun g => (X g).bind fun v => zel v (fun w => some ((0 : Int32), (zl g 72 (0 : Int32).toNatClampNeg w.toInt64))) (fun e => E e g)) g 0 w := by
  refine ⟨_, by dsimp only; rw [q, Option.bind_some]; rfl, kQN_zl, fun _ => zl_at _ _ _ _⟩
theorem cQ_r {X : zS → Option (Int32 ⊕ String)} {E : String → zS → Option (Int32 × zS)} {e : String} {cd an : Int32} (q : X g = some (.inr e)) (hE : E e g = some (cd, g)) (hcd : cd ≠ 0) : cQ (fun g => (X g).bind fun v => zel v (fun w => some ((0 : Int32), (zl g 72 (0 : Int32).toNatClampNeg w.toInt64))) (fun e => E e g)) g cd an := by
  refine ⟨g, by dsimp only; rw [q, Option.bind_some]; exact hE, fr_rfl _ _, fun k => absurd k hcd⟩
theorem cQ_ls {X : zS → Option ((Int32 ⊕ String) × zS)} {E : String → zS → Option (Int32 × zS)} {w : Int32} (q : X g = some (.inl w, h)) (a : fr (fun c => kQ c && kN c) g h) : cQ (fun g => (X g).bind fun v => zel2 v (fun w g2 => some ((0 : Int32), (zl g2 72 (0 : Int32).toNatClampNeg w.toInt64))) (fun e g2 => E e g2)) g 0 w := by
  refine ⟨_, by dsimp only; rw [q, Option.bind_some]; rfl, fr_tr a kQN_zl, fun _ => zl_at _ _ _ _⟩
theorem cQ_rs {X : zS → Option ((Int32 ⊕ String) × zS)} {E : String → zS → Option (Int32 × zS)} {e : String} {cd an : Int32} (q : X g = some (.inr e, h)) (a : fr (fun c => kQ c && kN c) g h) (hE : E e h = some (cd, h)) (hcd : cd ≠ 0) : cQ (fun g => (X g).bind fun v => zel2 v (fun w g2 => some ((0 : Int32), (zl g2 72 (0 : Int32).toNatClampNeg w.toInt64))) (fun e g2 => E e g2)) g cd an := by
  refine ⟨h, by dsimp only; rw [q, Option.bind_some]; exact hE, a, fun k => absurd k hcd⟩
/-- the reference's code laid -/
theorem sc_42 (g : zS) (s : Int32) : sc g (zi g 42 0 s) := sc_zi rfl _ _
theorem le1 : ¬ (1 : Int32) ≤ 0 := by decide
theorem le2 : ¬ (2 : Int32) ≤ 0 := by decide
theorem le3 : ¬ (3 : Int32) ≤ 0 := by decide
theorem n01 : ¬ (1 : Int32) = 0 := by decide
theorem n02 : ¬ (2 : Int32) = 0 := by decide
theorem n03 : ¬ (3 : Int32) = 0 := by decide
/-- an answer that is an error -/
theorem mQ_err {s an : Int32} (hs : ¬ s = 0) : ∃ k' an', some ((0 : Int32), zi g 42 0 s) = some (an', k') ∧ sc g k' ∧ k'.1 42 0 = s ∧ (s = 0 → an' = an) := ⟨_, _, rfl, sc_42 g s, zi_at _ _ _ _, fun q => absurd q hs⟩
end Nd
