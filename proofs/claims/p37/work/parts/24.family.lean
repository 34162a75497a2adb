
/-! ===== families of sets of edits: a long as 64 bits ===== -/
def fb (F : Int64) (x : Nat) : Bool := F.toBitVec.getLsbD x
theorem fb_and (F G : Int64) (x : Nat) : fb (F &&& G) x = (fb F x && fb G x) := BitVec.getLsbD_and
theorem fb_or (F G : Int64) (x : Nat) : fb (F ||| G) x = (fb F x || fb G x) := BitVec.getLsbD_or
theorem fb_xor (F G : Int64) (x : Nat) : fb (F ^^^ G) x = (fb F x ^^ fb G x) := BitVec.getLsbD_xor
theorem fb_ge {F : Int64} {x : Nat} (h : 64 ≤ x) : fb F x = false := BitVec.getLsbD_of_ge _ _ h
theorem fb_ext {F G : Int64} (h : ∀ x, x < 64 → fb F x = fb G x) : F = G := Int64.toBitVec.inj (BitVec.eq_of_getLsbD_eq fun i hi => h i hi)
theorem fb_0 (x : Nat) : fb 0 x = false := BitVec.getLsbD_zero
theorem fb_1 {x : Nat} (h : x < 64) : fb 1 x = (x == 0) := by
  have hd : ∀ x, x < 64 → fb 1 x = (x == 0) := by decide
  exact hd x h
theorem fb_m1 {x : Nat} (h : x < 64) : fb (-1) x = true := by
  have hd : ∀ x, x < 64 → fb (-1) x = true := by decide
  exact hd x h
theorem fb_with {e x : Nat} (he : e < 6) (hx : x < 64) : fb (zwith.getD e 0) x = x.testBit e := by
  have hd : ∀ e, e < 6 → ∀ x, x < 64 → fb (zwith.getD e 0) x = x.testBit e := by decide
  exact hd e he x hx
theorem n64_smod {e : Nat} (he : e < 6) : (((nI (2 ^ e)).toInt64 &&& 63).toBitVec.smod 64) = BitVec.ofNat 64 (2 ^ e) := by
  have hd : ∀ e, e < 6 → (((nI (2 ^ e)).toInt64 &&& 63).toBitVec.smod 64) = BitVec.ofNat 64 (2 ^ e) := by decide
  exact hd e he
theorem pow6 {e : Nat} (he : e < 6) : 2 ^ e < 64 := by
  have hd : ∀ e, e < 6 → 2 ^ e < 64 := by decide
  exact hd e he
theorem fb_shl {F : Int64} {e x : Nat} (he : e < 6) (hx : x < 64) : fb (F <<< ((nI (2 ^ e)).toInt64 &&& 63)) x = (!decide (x < 2 ^ e) && fb F (x - 2 ^ e)) := by
  unfold fb
  rw [Int64.toBitVec_shiftLeft]
  show (F.toBitVec <<< (((nI (2 ^ e)).toInt64 &&& 63).toBitVec.smod 64)).getLsbD x = _
  have := pow6 he
  rw [n64_smod he, BitVec.shiftLeft_eq', BitVec.toNat_ofNat, Nat.mod_eq_of_lt (by omega), BitVec.getLsbD_shiftLeft]
  simp [hx]
theorem fb_shr {F : Int64} {e x : Nat} (he : e < 6) : fb ((F.toUInt64 >>> ((nI (2 ^ e)).toInt64.toUInt64 &&& Int64.toUInt64 63)).toInt64) x = fb F (x + 2 ^ e) := by
  have hd : ∀ e, e < 6 → (((nI (2 ^ e)).toInt64.toUInt64 &&& Int64.toUInt64 63).toBitVec.umod 64).toNat = 2 ^ e := by decide
  unfold fb
  show (F.toBitVec >>> (((nI (2 ^ e)).toInt64.toUInt64 &&& Int64.toUInt64 63).toBitVec.umod 64)).getLsbD x = _
  rw [BitVec.ushiftRight_eq', hd e he, BitVec.getLsbD_ushiftRight, Nat.add_comm]
/-- a step of ahead: the edit e out of the set -/
theorem fb_astep {F : Int64} {e x : Nat} (he : e < 6) (hx : x < 64) : fb ((F &&& (zwith.getD e 0 ^^^ (-1))) ||| ((F &&& (zwith.getD e 0 ^^^ (-1))) <<< ((nI (2 ^ e)).toInt64 &&& 63))) x = fb F (x &&& (63 ^^^ 2 ^ e)) := by
  have hd : ∀ e, e < 6 → ∀ x, x < 64 → (x.testBit e = true → ¬ x < 2 ^ e ∧ (x - 2 ^ e).testBit e = false ∧ x - 2 ^ e = x &&& (63 ^^^ 2 ^ e)) ∧ (x.testBit e = false → x = x &&& (63 ^^^ 2 ^ e) ∧ (¬ x < 2 ^ e → (x - 2 ^ e).testBit e = true)) := by decide
  obtain ⟨h1, h2⟩ := hd e he x hx
  rw [fb_or, fb_shl he hx, fb_and, fb_and, fb_xor, fb_xor, fb_with he hx, fb_with he (Nat.lt_of_le_of_lt (Nat.sub_le _ _) hx), fb_m1 hx, fb_m1 (Nat.lt_of_le_of_lt (Nat.sub_le _ _) hx)]
  by_cases hb : x.testBit e = true
  · obtain ⟨a1, a2, a3⟩ := h1 hb
    rw [hb, a2, ← a3]
    simp [a1]
  · have hb : x.testBit e = false := by simpa using hb
    obtain ⟨a1, a2⟩ := h2 hb
    rw [hb, ← a1]
    by_cases hlt : x < 2 ^ e
    · simp [hlt]
    · rw [a2 hlt]
      simp
theorem fb_mstep {F : Int64} {e x : Nat} (he : e < 6) (hx : x < 64) : fb ((F &&& (zwith.getD e 0)) ||| (((F &&& (zwith.getD e 0)).toUInt64 >>> ((nI (2 ^ e)).toInt64.toUInt64 &&& Int64.toUInt64 63)).toInt64)) x = fb F (x ||| 2 ^ e) := by
  have hd : ∀ e, e < 6 → ∀ x, x < 64 → (x.testBit e = true → x = x ||| 2 ^ e ∧ (x + 2 ^ e < 64 → (x + 2 ^ e).testBit e = false)) ∧ (x.testBit e = false → x + 2 ^ e < 64 ∧ (x + 2 ^ e).testBit e = true ∧ x + 2 ^ e = x ||| 2 ^ e) := by decide
  obtain ⟨h1, h2⟩ := hd e he x hx
  rw [fb_or, fb_shr he, fb_and, fb_and, fb_with he hx]
  by_cases hb : x.testBit e = true
  · obtain ⟨a1, a2⟩ := h1 hb
    rw [hb, ← a1]
    by_cases hlt : x + 2 ^ e < 64
    · rw [fb_with he hlt, a2 hlt]
      simp
    · rw [fb_ge (F := F) (Nat.not_lt.mp hlt)]
      simp
  · have hb : x.testBit e = false := by simpa using hb
    obtain ⟨a1, a2, a3⟩ := h2 hb
    rw [fb_with he a1, hb, a2, ← a3]
    simp
/-- what the first k edits leave of those that E has not -/
def zmA (E : Nat) (k : Nat) : Nat := foN (fun e a => if E.testBit e then a else a &&& (63 ^^^ 2 ^ e)) k 63
theorem zmA_bit (E : Nat) : ∀ k, k ≤ 6 → ∀ i, i < 6 → (zmA E k).testBit i = (decide (k ≤ i) || E.testBit i) := by
  intro k
  induction k with
  | zero =>
    intro _ i hi
    have hd : ∀ i, i < 6 → (63 : Nat).testBit i = true := by decide
    show (63 : Nat).testBit i = _
    rw [hd i hi]
    simp
  | succ k ih =>
    intro hk i hi
    have hd : ∀ k, k < 6 → ∀ i, i < 6 → (63 ^^^ 2 ^ k).testBit i = decide (i ≠ k) := by decide
    have e : zmA E (k + 1) = if E.testBit k then zmA E k else zmA E k &&& (63 ^^^ 2 ^ k) := rfl
    rw [e]
    by_cases h : E.testBit k = true
    · rw [if_pos h, ih (by omega) i hi]
      by_cases hik : i = k
      · subst hik
        simp [h]
      · by_cases h2 : k ≤ i
        · have h3 : k + 1 ≤ i := by omega
          simp [h2, h3]
        · have h3 : ¬ k + 1 ≤ i := by omega
          simp [h2, h3]
    · rw [if_neg h, Nat.testBit_and, ih (by omega) i hi, hd k (by omega) i hi]
      by_cases hik : i = k
      · subst hik
        simp [h]
      · by_cases h2 : k ≤ i
        · have h3 : k + 1 ≤ i := by omega
          simp [h2, h3, hik]
        · have h3 : ¬ k + 1 ≤ i := by omega
          simp [h2, h3, hik]
theorem lt64_bit {x : Nat} (hx : x < 64) {i : Nat} (hi : ¬ i < 6) : x.testBit i = false := Nat.testBit_lt_two_pow (Nat.lt_of_lt_of_le hx (by rw [show 64 = 2 ^ 6 from rfl]; exact Nat.pow_le_pow_right (by omega) (by omega)))
theorem zmA_6 {E x : Nat} (hx : x < 64) : x &&& zmA E 6 = x &&& E := by
  apply Nat.eq_of_testBit_eq
  intro i
  rw [Nat.testBit_and, Nat.testBit_and]
  by_cases hi : i < 6
  · rw [zmA_bit E 6 (by omega) i hi]
    have h : ¬ 6 ≤ i := by omega
    simp [h]
  · rw [lt64_bit hx hi]
    simp
def ahN (F : Int64) (E : Nat) (k : Nat) : Int64 := foN (fun e a => if E.testBit e then a else (a &&& (zwith.getD e 0 ^^^ (-1))) ||| ((a &&& (zwith.getD e 0 ^^^ (-1))) <<< ((nI (2 ^ e)).toInt64 &&& 63))) k F
theorem ahN_s (F : Int64) (E k : Nat) : ahN F E (k + 1) = if E.testBit k then ahN F E k else (ahN F E k &&& (zwith.getD k 0 ^^^ (-1))) ||| ((ahN F E k &&& (zwith.getD k 0 ^^^ (-1))) <<< ((nI (2 ^ k)).toInt64 &&& 63)) := rfl
theorem zmA_s (E k : Nat) : zmA E (k + 1) = if E.testBit k then zmA E k else zmA E k &&& (63 ^^^ 2 ^ k) := rfl
theorem zmA_0 {E x : Nat} (hx : x < 64) : x &&& zmA E 0 = x := by
  apply Nat.eq_of_testBit_eq
  intro i
  rw [Nat.testBit_and]
  by_cases hi : i < 6
  · rw [zmA_bit E 0 (by omega) i hi]
    simp
  · rw [lt64_bit hx hi]
    rfl
theorem ahN_bit (F : Int64) (E : Nat) : ∀ k, k ≤ 6 → ∀ x, x < 64 → fb (ahN F E k) x = fb F (x &&& zmA E k) := by
  intro k
  induction k with
  | zero =>
    intro _ x hx
    rw [zmA_0 hx]
    rfl
  | succ k ih =>
    intro hk x hx
    rw [ahN_s, zmA_s]
    by_cases h : E.testBit k = true
    · rw [if_pos h, if_pos h]
      exact ih (by omega) x hx
    · rw [if_neg h, if_neg h, fb_astep (by omega) hx, ih (by omega) _ (Nat.lt_of_le_of_lt Nat.and_le_left hx)]
      congr 1
      rw [Nat.and_assoc, Nat.and_comm (63 ^^^ 2 ^ k)]
theorem e_ahead {E : Nat} (F : Int64) (g : zS) : nX3_ahead F (nI E) g = some (ahN F E 6) := by
  unfold nX3_ahead
  refine wh_seq (fun i => (ahN F E i, nI i)) 6 (fun i hi => ?_) ?_
  · dsimp only [wX3_ahead_5]
    rw [if_neg (by rw [show (6 : Int32) = nI 6 from rfl, nN_le (by omega) (by omega)]; omega), nI_s, ahN_s]
    by_cases h : E.testBit i = true
    · rw [if_neg (fun q => by rw [(nI_bitg (by omega)).mp q] at h; cases h), if_pos h]
    · rw [if_pos ((nI_bitg (by omega)).mpr (by simpa using h)), if_neg h, zchk_t (zin_nI (by omega) (by omega)), nI_cl (by omega), nI_shl (by omega)]
  · dsimp only [wX3_ahead_5]
    rw [if_pos (show (6 : Int32) ≤ nI 6 from Int32.le_refl _)]
    rfl
theorem ah_bit {F : Int64} {E x : Nat} (hx : x < 64) : fb (ahN F E 6) x = fb F (x &&& E) := by
  rw [ahN_bit F E 6 (by omega) x hx, zmA_6 hx]
/-- what the first k edits that E has not add -/
def zmO (E : Nat) (k : Nat) : Nat := foN (fun e a => if E.testBit e then a else a ||| 2 ^ e) k 0
theorem zmO_s (E k : Nat) : zmO E (k + 1) = if E.testBit k then zmO E k else zmO E k ||| 2 ^ k := rfl
theorem zmO_bit (E : Nat) : ∀ k i, (zmO E k).testBit i = (decide (i < k) && !E.testBit i) := by
  intro k
  induction k with
  | zero => intro i; simp [zmO, foN]
  | succ k ih =>
    intro i
    rw [zmO_s]
    by_cases h : E.testBit k = true
    · rw [if_pos h, ih i]
      by_cases hik : i = k
      · subst hik
        simp [h]
      · by_cases h2 : i < k
        · simp [h2, Nat.lt_succ_of_lt h2]
        · have h3 : ¬ i < k + 1 := by omega
          simp [h2, h3]
    · rw [if_neg h, Nat.testBit_or, ih i, Nat.testBit_two_pow]
      by_cases hik : i = k
      · subst hik
        simp [h]
      · have hki : ¬ k = i := fun q => hik q.symm
        by_cases h2 : i < k
        · simp [h2, Nat.lt_succ_of_lt h2, hki]
        · have h3 : ¬ i < k + 1 := by omega
          simp [h2, h3, hki]
theorem zmO_lt (E : Nat) : ∀ k, k ≤ 6 → zmO E k < 64 := by
  intro k
  induction k with
  | zero => intro _; show 0 < 64; omega
  | succ k ih =>
    intro hk
    rw [zmO_s]
    split
    · exact ih (by omega)
    · exact Nat.or_lt_two_pow (n := 6) (ih (by omega)) (pow6 (by omega))
def meN (F : Int64) (E : Nat) (k : Nat) : Int64 := foN (fun e a => if E.testBit e then a else (a &&& (zwith.getD e 0)) ||| (((a &&& (zwith.getD e 0)).toUInt64 >>> ((nI (2 ^ e)).toInt64.toUInt64 &&& Int64.toUInt64 63)).toInt64)) k F
theorem meN_s (F : Int64) (E k : Nat) : meN F E (k + 1) = if E.testBit k then meN F E k else (meN F E k &&& (zwith.getD k 0)) ||| (((meN F E k &&& (zwith.getD k 0)).toUInt64 >>> ((nI (2 ^ k)).toInt64.toUInt64 &&& Int64.toUInt64 63)).toInt64) := rfl
theorem meN_bit (F : Int64) (E : Nat) : ∀ k, k ≤ 6 → ∀ x, x < 64 → fb (meN F E k) x = fb F (x ||| zmO E k) := by
  intro k
  induction k with
  | zero =>
    intro _ x hx
    show fb F x = fb F (x ||| 0)
    rw [Nat.or_zero]
  | succ k ih =>
    intro hk x hx
    rw [meN_s, zmO_s]
    by_cases h : E.testBit k = true
    · rw [if_pos h, if_pos h]
      exact ih (by omega) x hx
    · rw [if_neg h, if_neg h, fb_mstep (by omega) hx, ih (by omega) _ (Nat.or_lt_two_pow (n := 6) hx (pow6 (by omega)))]
      congr 1
      rw [Nat.or_assoc, Nat.or_comm (2 ^ k)]
theorem e_met {E : Nat} (F : Int64) (g : zS) : nX3_met F (nI E) g = some (meN F E 6) := by
  unfold nX3_met
  refine wh_seq (fun i => (meN F E i, nI i)) 6 (fun i hi => ?_) ?_
  · dsimp only [wX3_met_5]
    rw [if_neg (by rw [show (6 : Int32) = nI 6 from rfl, nN_le (by omega) (by omega)]; omega), nI_s, meN_s]
    by_cases h : E.testBit i = true
    · rw [if_neg (fun q => by rw [(nI_bitg (by omega)).mp q] at h; cases h), if_pos h]
    · rw [if_pos ((nI_bitg (by omega)).mpr (by simpa using h)), if_neg h, zchk_t (zin_nI (by omega) (by omega)), nI_cl (by omega), nI_shl (by omega)]
  · dsimp only [wX3_met_5]
    rw [if_pos (show (6 : Int32) ≤ nI 6 from Int32.le_refl _)]
    rfl
theorem e_has {F : Int64} {E : Nat} (hE : E < 64) : nX3_has F (nI E) = some (if fb F E then 1 else 0) := by
  have hd : ∀ E, E < 64 → (((nI E).toInt64.toUInt64 &&& Int64.toUInt64 63).toBitVec.umod 64).toNat = E := by decide
  have h1 : (F.toUInt64 >>> ((nI E).toInt64.toUInt64 &&& Int64.toUInt64 63)).toInt64 &&& (1 : Int64) = if fb F E then 1 else 0 := by
    apply fb_ext
    intro x hx
    rw [fb_and, fb_1 hx]
    have h2 : fb ((F.toUInt64 >>> ((nI E).toInt64.toUInt64 &&& Int64.toUInt64 63)).toInt64) x = fb F (x + E) := by
      unfold fb
      show (F.toBitVec >>> (((nI E).toInt64.toUInt64 &&& Int64.toUInt64 63).toBitVec.umod 64)).getLsbD x = _
      rw [BitVec.ushiftRight_eq', hd E hE, BitVec.getLsbD_ushiftRight, Nat.add_comm]
    rw [h2]
    by_cases h0 : x = 0
    · subst h0
      rw [Nat.zero_add]
      cases fb F E
      · rfl
      · rfl
    · have e0 : (x == 0) = false := by simpa using h0
      rw [e0, Bool.and_false]
      cases fb F E
      · exact (fb_0 x).symm
      · show false = fb 1 x
        rw [fb_1 hx, e0]
  unfold nX3_has
  rw [h1]
  cases fb F E
  · rfl
  · rfl
