
/-! ===== what the face asks of its numbers, on both sides ===== -/
section Nd
variable {S : zSt} {g h : zS} {P : zPl} {N : Nat}
/-- a number is none of the first n -/
def nIx (a : Int32) (n : Nat) : Prop := a < 0 ∨ (¬ a < 0 ∧ nI n ≤ a)
theorem ix2 (a : Int32) {n : Nat} (hn : n < 2147483648) : (∃ k, k < n ∧ a = nI k) ∨ nIx a n := ix_dec a hn
theorem nIx_lt {a : Int32} {n : Nat} (hno : nIx a n) : ¬ (¬ a < 0 ∧ a < nI n) := fun q => by
  rcases hno with k | ⟨_, k⟩
  · exact q.1 k
  · exact absurd q.2 (Int32.not_lt.mpr k)
theorem m_in {k n : Nat} (hk : k < n) (hn : n < 2147483648) : nX11_isIn (nI k) 0 (nI n - 1) = some 1 := by
  unfold nX11_isIn
  have e : nI n - (1 : Int32) = nI (n - 1) := nI_sub (a := n) (b := 1) (by omega)
  rw [if_neg (nI_nn (by omega)), e, if_neg (by rw [nN_lt (by omega) (by omega)]; omega)]
theorem m_in1 {k n : Nat} (hk : k ≤ n) (hn : n < 2147483648) : nX11_isIn (nI k) 0 (nI n) = some 1 := by
  unfold nX11_isIn
  rw [if_neg (nI_nn (by omega)), if_neg (by rw [nN_lt (by omega) (by omega)]; omega)]
theorem m_out {a : Int32} {n : Nat} (hn : n < 2147483648) (hno : nIx a n) : nX11_isIn a 0 (nI n - 1) = some 0 := by
  unfold nX11_isIn
  by_cases c : a < 0
  · rw [if_pos c]
  · rw [if_neg c]
    have h2 : nI n ≤ a := by
      rcases hno with k | k
      · exact absurd k c
      · exact k.2
    have h3 : nI n - (1 : Int32) < a := by
      rw [Int32.lt_iff_toInt_lt]
      have h4 := Int32.le_iff_toInt_le.mp h2
      have e : (nI n - (1 : Int32)).toInt = (n : Int) - 1 := by
        cases n with
        | zero =>
          show (nI 0 - 1).toInt = _
          decide
        | succ n =>
          rw [show nI (n + 1) - (1 : Int32) = nI n from nI_sub (a := n + 1) (b := 1) (by omega), nI_int (by omega)]
          omega
      rw [nI_int hn] at h4
      omega
    rw [if_pos h3]
theorem m_out1 {a : Int32} {n : Nat} (hn : n + 1 < 2147483648) (hno : nIx a (n + 1)) : nX11_isIn a 0 (nI n) = some 0 := by
  have h := m_out hn hno
  rw [show nI (n + 1) - (1 : Int32) = nI n from nI_sub (a := n + 1) (b := 1) (by omega)] at h
  exact h
theorem m_isRow {r : Nat → Nat} (hR : mR P N r g) {k : Nat} (hk : k < N) : nX11_isRow (nI k) g = some 1 := by
  have := hR.2.1
  unfold nX11_isRow
  rw [hR.1, m_in hk (by omega)]
  rfl
theorem m_isRowN {r : Nat → Nat} (hR : mR P N r g) {a : Int32} (ha : nIx a N) : nX11_isRow a g = some 0 := by
  have := hR.2.1
  unfold nX11_isRow
  rw [hR.1, m_out (by omega) ha]
  rfl
theorem m_isField (hO : pOK P) (hM : mP P g) {k : Nat} (hk : k < pn P) : nX11_isField (nI k) g = some 1 := by
  have := hO.1
  unfold nX11_isField
  rw [hM.1, m_in hk (by omega)]
  rfl
theorem m_isFieldN (hO : pOK P) (hM : mP P g) {a : Int32} (ha : nIx a (pn P)) : nX11_isField a g = some 0 := by
  have := hO.1
  unfold nX11_isField
  rw [hM.1, m_out (by omega) ha]
  rfl
theorem m_isEdit (hO : pOK P) (hM : mP P g) {k : Nat} (hk : k < pm P) : nX11_isEdit (nI k) g = some 1 := by
  have := hO.2.2.2.1
  unfold nX11_isEdit
  rw [hM.2.1, m_in hk (by omega)]
  rfl
theorem m_isEditN (hO : pOK P) (hM : mP P g) {a : Int32} (ha : nIx a (pm P)) : nX11_isEdit a g = some 0 := by
  have := hO.2.2.2.1
  unfold nX11_isEdit
  rw [hM.2.1, m_out (by omega) ha]
  rfl
theorem m_isSet (hO : pOK P) (hM : mP P g) {k : Nat} (hk : k < 2 ^ pn P) : nX11_isSet (nI k) g = some 1 := by
  have := p2n hO
  have h5 := hO.1
  unfold nX11_isSet
  rw [hM.1, nI_shl (by omega), m_in hk (by omega)]
  rfl
theorem m_isSetN (hO : pOK P) (hM : mP P g) {a : Int32} (ha : nIx a (2 ^ pn P)) : nX11_isSet a g = some 0 := by
  have := p2n hO
  have h5 := hO.1
  unfold nX11_isSet
  rw [hM.1, nI_shl (by omega), m_out (by omega) ha]
  rfl
theorem m_isWay {k : Nat} (hk : k < 3) : nX11_isWay (nI k) = some 1 := by
  have h := m_in1 (k := k) (n := 2) (by omega) (by omega)
  have e : nX11_isIn (nI k) 0 2 = some 1 := h
  unfold nX11_isWay
  rw [e]
  rfl
theorem m_isWayN {a : Int32} (ha : nIx a 3) : nX11_isWay a = some 0 := by
  have h := m_out1 (n := 2) (by omega) ha
  have e : nX11_isIn a 0 2 = some 0 := h
  unfold nX11_isWay
  rw [e]
  rfl
theorem c_needRow {r : Nat → Nat} (hR : rR P N r g) {k : Nat} (hk : k < N) : nX10_needRow (nI k) g = some (.inl ()) := by
  have := hR.2.1
  unfold nX10_needRow
  rw [if_neg (nI_nn (by omega)), hR.1, if_pos ((nN_lt (by omega) (by omega)).mpr hk)]
theorem c_needRowN {r : Nat → Nat} (hR : rR P N r g) {a : Int32} (ha : nIx a N) : nX10_needRow a g = some (.inr "java/lang/IndexOutOfBoundsException") := by
  unfold nX10_needRow jX10_needRow_15
  rw [hR.1]
  by_cases c : a < 0
  · rw [if_pos c]
  · rw [if_neg c, if_neg (fun q => nIx_lt ha ⟨c, q⟩)]
theorem c_needField (hO : pOK P) (hP : cP P g) {k : Nat} (hk : k < pn P) : nX10_needField (nI k) g = some (.inl ()) := by
  have := hO.1
  unfold nX10_needField
  rw [if_neg (nI_nn (by omega)), hP.1, if_pos ((nN_lt (by omega) (by omega)).mpr hk)]
theorem c_needFieldN (hP : cP P g) {a : Int32} (ha : nIx a (pn P)) : nX10_needField a g = some (.inr "java/lang/IndexOutOfBoundsException") := by
  unfold nX10_needField jX10_needField_15
  rw [hP.1]
  by_cases c : a < 0
  · rw [if_pos c]
  · rw [if_neg c, if_neg (fun q => nIx_lt ha ⟨c, q⟩)]
theorem c_needEdit (hO : pOK P) (hP : cP P g) {k : Nat} (hk : k < pm P) : nX10_needEdit (nI k) g = some (.inl ()) := by
  have := hO.2.2.2.1
  unfold nX10_needEdit
  rw [if_neg (nI_nn (by omega)), hP.2.2.2.2.2.1, if_pos ((nN_lt (by omega) (by omega)).mpr hk)]
theorem c_needEditN (hP : cP P g) {a : Int32} (ha : nIx a (pm P)) : nX10_needEdit a g = some (.inr "java/lang/IndexOutOfBoundsException") := by
  unfold nX10_needEdit jX10_needEdit_15
  rw [hP.2.2.2.2.2.1]
  by_cases c : a < 0
  · rw [if_pos c]
  · rw [if_neg c, if_neg (fun q => nIx_lt ha ⟨c, q⟩)]
theorem c_needValue (hO : pOK P) (hP : cP P g) {f k : Nat} (hf : f < pn P) (hk : k < pq P f) : nX10_needValue (nI f) (nI k) g = some (.inl ()) := by
  have := hO.1
  have := (hO.2.1 f hf).2.1
  unfold nX10_needValue
  rw [if_neg (nI_nn (by omega)), zchk_t (zin_nI (by omega) (by omega)), nI_cl (by omega), hP.2.1 f hf, if_pos ((nN_lt (by omega) (by omega)).mpr hk)]
theorem c_needValueN (hO : pOK P) (hP : cP P g) {f : Nat} (hf : f < pn P) {a : Int32} (ha : nIx a (pq P f)) : nX10_needValue (nI f) a g = some (.inr "java/lang/IllegalArgumentException") := by
  have := hO.1
  unfold nX10_needValue jX10_needValue_17
  rw [zchk_t (zin_nI (by omega) (by omega)), nI_cl (by omega), hP.2.1 f hf]
  by_cases c : a < 0
  · rw [if_pos c]
  · rw [if_neg c, if_neg (fun q => nIx_lt ha ⟨c, q⟩)]
theorem c_needSet (hO : pOK P) (hP : cP P g) {k : Nat} (hk : k < 2 ^ pn P) : nX10_needSet (nI k) g = some (.inl ()) := by
  have := p2n hO
  unfold nX10_needSet
  rw [if_neg (nI_nn (by omega)), e_allFields hO hP, Option.bind_some, if_pos ((nN_le (by omega) (by omega)).mpr (by omega))]
theorem c_needSetN (hO : pOK P) (hP : cP P g) {a : Int32} (ha : nIx a (2 ^ pn P)) : nX10_needSet a g = some (.inr "java/lang/IllegalArgumentException") := by
  have h7 := p2n hO
  have hpos := Nat.two_pow_pos (pn P)
  unfold nX10_needSet jX10_needSet_15
  by_cases c : a < 0
  · rw [if_pos c]
  · rw [if_neg c, e_allFields hO hP, Option.bind_some, if_neg]
    intro q
    have h2 : nI (2 ^ pn P) ≤ a := by
      rcases ha with k | k
      · exact absurd k c
      · exact k.2
    have h3 := Int32.le_trans h2 q
    rw [nN_le (by omega) (by omega)] at h3
    omega
theorem c_needWay {k : Nat} (hk : k < 3) : nX10_needWay (nI k) = some (.inl ()) := by
  unfold nX10_needWay
  rw [if_neg (nI_nn (by omega)), if_pos (show nI k ≤ (2 : Int32) from (nN_le (b := 2) (by omega) (by omega)).mpr (by omega))]
theorem c_needWayN {a : Int32} (ha : nIx a 3) : nX10_needWay a = some (.inr "java/lang/IllegalArgumentException") := by
  unfold nX10_needWay jX10_needWay_9
  by_cases c : a < 0
  · rw [if_pos c]
  · rw [if_neg c, if_neg]
    intro q
    have h2 : nI 3 ≤ a := by
      rcases ha with k | k
      · exact absurd k c
      · exact k.2
    exact absurd (Int32.le_trans h2 q) (by decide)
theorem c_needAnswers (hO : pOK P) (hP : cP P g) {r : Nat → Nat} (hR : rR P N r g) {k S : Nat} (hk : k < N) (hS : mSb (r k) S (pn P) = true) : nX10_needAnswers (nI k) (nI S) g = some (.inl ()) := by
  unfold nX10_needAnswers
  rw [e_codeOf hR hk, Option.bind_some, hP.1, e_missingIn (hR.2.2 k hk).2.1 hO.1, Option.bind_some, if_pos ((m_miss hO).mpr hS)]
theorem c_needAnswersN (hO : pOK P) (hP : cP P g) {r : Nat → Nat} (hR : rR P N r g) {k S : Nat} (hk : k < N) (hS : mSb (r k) S (pn P) = false) : nX10_needAnswers (nI k) (nI S) g = some (.inr "java/lang/IllegalStateException") := by
  unfold nX10_needAnswers
  rw [e_codeOf hR hk, Option.bind_some, hP.1, e_missingIn (hR.2.2 k hk).2.1 hO.1, Option.bind_some, if_neg (fun q => by rw [(m_miss hO).mp q] at hS; cases hS)]
/-- the class's answers in the law -/
theorem kQN_zl {v : Int64} : fr (fun c => kQ c && kN c) g (zl g 72 (0 : Int32).toNatClampNeg v) := fr_zl rfl _ _ _
theorem cQ_l {X : zS → Option (Int32 ⊕ String)} {E : String → zS → Option (Int32 × zS)} {w : Int32} (q : X g = some (.inl w)) : cQ (fun g => (X g).bind fun v => zel v (fun w => some ((0 : Int32), (zl g 72 (0 : Int32).toNatClampNeg w.toInt64))) (fun e => E e g)) g 0 w := by
  refine ⟨_, by dsimp only; rw [q, Option.bind_some]; rfl, kQN_zl, fun _ => zl_at _ _ _ _⟩
theorem cQ_r {X : zS → Option (Int32 ⊕ String)} {E : String → zS → Option (Int32 × zS)} {e : String} {cd an : Int32} (q : X g = some (.inr e)) (hE : E e g = some (cd, g)) (hcd : cd ≠ 0) : cQ (fun g => (X g).bind fun v => zel v (fun w => some ((0 : Int32), (zl g 72 (0 : Int32).toNatClampNeg w.toInt64))) (fun e => E e g)) g cd an := by
  refine ⟨g, by dsimp only; rw [q, Option.bind_some]; exact hE, fr_rfl _ _, fun k => absurd k hcd⟩
theorem cQ_ls {X : zS → Option ((Int32 ⊕ String) × zS)} {E : String → zS → Option (Int32 × zS)} {w : Int32} (q : X g = some (.inl w, h)) (a : fr (fun c => kQ c && kN c) g h) : cQ (fun g => (X g).bind fun v => zel2 v (fun w g2 => some ((0 : Int32), (zl g2 72 (0 : Int32).toNatClampNeg w.toInt64))) (fun e g2 => E e g2)) g 0 w := by
  refine ⟨_, by dsimp only; rw [q, Option.bind_some]; rfl, fr_tr a kQN_zl, fun _ => zl_at _ _ _ _⟩
theorem cQ_rs {X : zS → Option ((Int32 ⊕ String) × zS)} {E : String → zS → Option (Int32 × zS)} {e : String} {cd an : Int32} (q : X g = some (.inr e, h)) (a : fr (fun c => kQ c && kN c) g h) (hE : E e h = some (cd, h)) (hcd : cd ≠ 0) : cQ (fun g => (X g).bind fun v => zel2 v (fun w g2 => some ((0 : Int32), (zl g2 72 (0 : Int32).toNatClampNeg w.toInt64))) (fun e g2 => E e g2)) g cd an := by
  refine ⟨h, by dsimp only; rw [q, Option.bind_some]; exact hE, a, fun k => absurd k hcd⟩
/-- the reference's code laid -/
theorem sc_42 (g : zS) (s : Int32) : sc g (zi g 42 0 s) := sc_zi rfl _ _
theorem le1 : ¬ (1 : Int32) ≤ 0 := by decide
theorem le2 : ¬ (2 : Int32) ≤ 0 := by decide
theorem le3 : ¬ (3 : Int32) ≤ 0 := by decide
theorem n01 : ¬ (1 : Int32) = 0 := by decide
theorem n02 : ¬ (2 : Int32) = 0 := by decide
theorem n03 : ¬ (3 : Int32) = 0 := by decide
/-- an answer that is an error -/
theorem mQ_err {s an : Int32} (hs : ¬ s = 0) : ∃ k' an', some ((0 : Int32), zi g 42 0 s) = some (an', k') ∧ sc g k' ∧ k'.1 42 0 = s ∧ (s = 0 → an' = an) := ⟨_, _, rfl, sc_42 g s, zi_at _ _ _ _, fun q => absurd q hs⟩
end Nd
