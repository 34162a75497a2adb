
/-! ===== rows as codes, what a text tells: the class's small functions as numbers ===== -/
theorem nI_xor (a b : Nat) : nI a ^^^ nI b = nI (a ^^^ b) := Int32.toBitVec.inj (by
  show BitVec.ofNat 32 a ^^^ BitVec.ofNat 32 b = BitVec.ofNat 32 (a ^^^ b)
  rw [BitVec.ofNat_xor])
theorem nI_m1 : (-1 : Int32) = nI 4294967295 := by decide
theorem nI_shlg {k s : Nat} (hs : s < 32) : nI k <<< (nI s &&& 31) = nI (k <<< s) := Int32.toBitVec.inj (by
  rw [Int32.toBitVec_shiftLeft]
  show (nI k).toBitVec <<< ((nI s &&& 31).toBitVec.smod 32) = BitVec.ofNat 32 (k <<< s)
  rw [nI_smod hs]
  show (BitVec.ofNat 32 k) <<< (BitVec.ofNat 32 s) = BitVec.ofNat 32 (k <<< s)
  rw [BitVec.shiftLeft_eq', BitVec.toNat_ofNat, Nat.mod_eq_of_lt (by omega)]
  apply BitVec.eq_of_toNat_eq
  rw [BitVec.toNat_shiftLeft, BitVec.toNat_ofNat, BitVec.toNat_ofNat, Nat.shiftLeft_eq, Nat.shiftLeft_eq, Nat.mod_mul_mod])
/-- a number less one: 0 stands for what is missing -/
def nJ (k : Nat) : Int32 := nI k - 1
theorem nJ_0 : nJ 0 = -1 := by decide
theorem nJ_s (k : Nat) : nJ (k + 1) = nI k := by
  unfold nJ
  rw [← nI_s, Int32.add_sub_cancel]
theorem nJ_add (k : Nat) : nJ k + 1 = nI k := by
  unfold nJ
  rw [Int32.sub_add_cancel]
theorem nJ_eq {a b : Nat} (ha : a < 2147483648) (hb : b < 2147483648) : nJ a = nJ b ↔ a = b := ⟨fun h => by
  have h2 : nJ a + 1 = nJ b + 1 := by rw [h]
  rw [nJ_add, nJ_add, nN_eq ha hb] at h2
  exact h2, fun h => by rw [h]⟩
theorem nJ_m1 {a : Nat} (ha : a < 2147483648) : nJ a = -1 ↔ a = 0 := by
  rw [← nJ_0, nJ_eq ha (by omega)]
theorem nJ_neg {a : Nat} (ha : a < 2147483648) : nJ a < 0 ↔ a = 0 := by
  cases a with
  | zero => exact ⟨fun _ => rfl, fun _ => by decide⟩
  | succ a =>
    rw [nJ_s]
    exact ⟨fun h => absurd h (nI_nn (by omega)), fun h => by omega⟩
/-- what a row has in a field: 0 missing, else the value and 1 more -/
def rv (c f : Nat) : Nat := (c >>> (3 * f)) &&& 7
theorem rv_lt (c f : Nat) : rv c f < 8 := Nat.lt_succ_of_le (Nat.and_le_right)
theorem rv_bit (c f i : Nat) : (rv c f).testBit i = (c.testBit (3 * f + i) && decide (i < 3)) := by
  unfold rv
  rw [Nat.testBit_and, Nat.testBit_shiftRight]
  congr 1
  rw [show (7 : Nat) = 2 ^ 3 - 1 from rfl, Nat.testBit_two_pow_sub_one]
def wa (c f k : Nat) : Nat := (c &&& ((7 <<< (3 * f)) ^^^ 4294967295)) ||| (k <<< (3 * f))
theorem rv_wa {c f g k : Nat} (hf : f < 5) (hg : g < 5) (hk : k < 8) : rv (wa c f k) g = if g = f then k else rv c g := by
  have h1 : ∀ f, f < 5 → ∀ g, g < 5 → ∀ i, i < 3 → ((7 <<< (3 * f)) ^^^ 4294967295).testBit (3 * g + i) = decide (g ≠ f) := by decide
  have h2 : ∀ f, f < 5 → ∀ g, g < 5 → ∀ i, i < 3 → ∀ k, k < 8 → (k <<< (3 * f)).testBit (3 * g + i) = (decide (g = f) && k.testBit i) := by decide
  apply Nat.eq_of_testBit_eq
  intro i
  by_cases hi : i < 3
  · rw [rv_bit]
    unfold wa
    rw [Nat.testBit_or, Nat.testBit_and, h1 f hf g hg i hi, h2 f hf g hg i hi k hk]
    by_cases hgf : g = f
    · rw [if_pos hgf]
      simp [hgf, hi]
    · rw [if_neg hgf, rv_bit]
      simp [hgf, hi]
  · have e : ∀ x, x < 8 → x.testBit i = false := fun x hx => Nat.testBit_lt_two_pow (Nat.lt_of_lt_of_le hx (by rw [show (8 : Nat) = 2 ^ 3 from rfl]; exact Nat.pow_le_pow_right (by omega) (by omega)))
    rw [e _ (rv_lt _ _)]
    split
    · rw [e _ hk]
    · rw [e _ (rv_lt _ _)]
theorem wa_lt {c f k : Nat} (hc : c < 32768) (hf : f < 5) (hk : k < 8) : wa c f k < 32768 := by
  have h2 : ∀ f, f < 5 → ∀ k, k < 8 → k <<< (3 * f) < 32768 := by decide
  exact Nat.or_lt_two_pow (n := 15) (Nat.lt_of_le_of_lt Nat.and_le_left hc) (h2 f hf k hk)
theorem e_answerAt {c f : Nat} (hc : c < 32768) (hf : f < 5) : nX1_answerAt (nI c) (nI f) = some (nJ (rv c f)) := by
  unfold nX1_answerAt
  rw [show (3 : Int32) = nI 3 from rfl, nI_mul, nI_shr (by omega) (by omega), show (7 : Int32) = nI 7 from rfl, nI_and]
  rfl
theorem e_withAnswer {c f k : Nat} (hf : f < 5) : nX1_withAnswer (nI c) (nI f) (nJ k) = some (nI (wa c f k)) := by
  unfold nX1_withAnswer
  rw [show (3 : Int32) = nI 3 from rfl, nI_mul, show (7 : Int32) = nI 7 from rfl, nI_shlg (by omega), nI_m1, nI_xor, nI_and, nJ_add, nI_shlg (by omega), nI_or]
  rfl
/-- the set of those below n for which b holds -/
def bS (b : Nat → Bool) : Nat → Nat
  | 0 => 0
  | n + 1 => if b n then bS b n ||| 2 ^ n else bS b n
theorem bS_lt (b : Nat → Bool) : ∀ n, bS b n < 2 ^ n := by
  intro n
  induction n with
  | zero => exact Nat.one_pos
  | succ n ih =>
    have h2 : bS b n < 2 ^ (n + 1) := Nat.lt_trans ih (Nat.pow_lt_pow_right (by omega) (by omega))
    show (if b n then bS b n ||| 2 ^ n else bS b n) < 2 ^ (n + 1)
    split
    · exact Nat.or_lt_two_pow h2 (Nat.pow_lt_pow_right (by omega) (by omega))
    · exact h2
theorem bS_bit (b : Nat → Bool) : ∀ n i, (bS b n).testBit i = (decide (i < n) && b i) := by
  intro n
  induction n with
  | zero => intro i; simp [bS]
  | succ n ih =>
    intro i
    show (if b n then bS b n ||| 2 ^ n else bS b n).testBit i = _
    by_cases hb : b n = true
    · rw [if_pos hb, Nat.testBit_or, ih, Nat.testBit_two_pow]
      by_cases hi : n = i
      · subst hi
        simp [hb]
      · by_cases h2 : i < n
        · simp [h2, hi, Nat.lt_succ_of_lt h2]
        · have h3 : ¬ i < n + 1 := by omega
          simp [h2, hi, h3]
    · rw [if_neg hb, ih]
      by_cases hi : n = i
      · subst hi
        simp [hb]
      · by_cases h2 : i < n
        · simp [h2, Nat.lt_succ_of_lt h2]
        · have h3 : ¬ i < n + 1 := by omega
          simp [h2, h3]
theorem bS_congr {b c : Nat → Bool} : ∀ n, (∀ i, i < n → b i = c i) → bS b n = bS c n := by
  intro n h
  apply Nat.eq_of_testBit_eq
  intro i
  rw [bS_bit, bS_bit]
  by_cases hi : i < n
  · rw [h i hi]
  · simp [hi]
theorem nt_or2 {a i : Nat} : nI a ||| nI (2 ^ i) = nI (a ||| 2 ^ i) := nI_or _ _
/-- the fields that are missing in a row -/
def rmis (c n : Nat) : Nat := bS (fun f => rv c f == 0) n
theorem e_missingIn {c n : Nat} (hc : c < 32768) (hn : n ≤ 5) : nX1_missingIn (nI c) (nI n) = some (nI (rmis c n)) := by
  unfold nX1_missingIn
  refine wh_seq (fun i => (nI (bS (fun f => rv c f == 0) i), nI i)) n (fun i hi => ?_) ?_
  · show wX1_missingIn_4 (nI c) (nI n) (nI (bS (fun f => rv c f == 0) i), nI i) = _
    unfold wX1_missingIn_4
    rw [if_neg (by rw [nN_le (by omega) (by omega)]; omega), e_answerAt hc (by omega)]
    show (if nJ (rv c i) = (-1 : Int32) then some (Sum.inl (nI (bS (fun f => rv c f == 0) i) ||| (1 : Int32) <<< (nI i &&& 31), nI i + 1)) else some (Sum.inl (nI (bS (fun f => rv c f == 0) i), nI i + 1))) = some (Sum.inl (nI (bS (fun f => rv c f == 0) (i + 1)), nI (i + 1)))
    have h9 := rv_lt c i
    rw [nI_s]
    by_cases h : rv c i = 0
    · rw [if_pos ((nJ_m1 (by omega)).mpr h), nI_shl (by omega), nI_or, bS, if_pos (by simp [h])]
    · rw [if_neg (fun q => h ((nJ_m1 (by omega)).mp q)), bS, if_neg (by simp [h])]
  · show wX1_missingIn_4 (nI c) (nI n) (nI (bS (fun f => rv c f == 0) n), nI n) = _
    unfold wX1_missingIn_4
    rw [if_pos (Int32.le_refl _)]
    rfl
theorem e_unlikeFields {c d : Nat} (hc : c < 32768) (hd : d < 32768) : nX1_unlikeFields (nI c) (nI d) = some (nI (bS (fun f => rv c f != rv d f) 5)) := by
  unfold nX1_unlikeFields
  refine wh_seq (fun i => (nI (bS (fun f => rv c f != rv d f) i), nI i)) 5 (fun i hi => ?_) ?_
  · show wX1_unlikeFields_4 (nI c) (nI d) (nI (bS (fun f => rv c f != rv d f) i), nI i) = _
    unfold wX1_unlikeFields_4
    rw [if_neg (by rw [show (5 : Int32) = nI 5 from rfl, nN_le (by omega) (by omega)]; omega), e_answerAt hc (by omega), e_answerAt hd (by omega)]
    show (if nJ (rv c i) = nJ (rv d i) then some (Sum.inl (nI (bS (fun f => rv c f != rv d f) i), nI i + 1)) else some (Sum.inl (nI (bS (fun f => rv c f != rv d f) i) ||| (1 : Int32) <<< (nI i &&& 31), nI i + 1))) = some (Sum.inl (nI (bS (fun f => rv c f != rv d f) (i + 1)), nI (i + 1)))
    have h8 := rv_lt c i
    have h9 := rv_lt d i
    rw [nI_s]
    by_cases h : rv c i = rv d i
    · rw [if_pos ((nJ_eq (by omega) (by omega)).mpr h), bS, if_neg (by simp [h])]
    · rw [if_neg (fun q => h ((nJ_eq (by omega) (by omega)).mp q)), nI_shl (by omega), nI_or, bS, if_pos (by simp [h])]
  · show wX1_unlikeFields_4 (nI c) (nI d) (nI (bS (fun f => rv c f != rv d f) 5), nI 5) = _
    unfold wX1_unlikeFields_4
    rw [if_pos (show (5 : Int32) ≤ nI 5 from Int32.le_refl _)]
    rfl
theorem nI_bitg {s k : Nat} (hk : k < 32) : ((nI s >>> (nI k &&& 31)) &&& 1 = 0) ↔ s.testBit k = false := by
  rw [← Int32.toBitVec_inj]
  show ((BitVec.ofNat 32 s).sshiftRight' ((nI k &&& 31).toBitVec.smod 32)) &&& 1#32 = 0#32 ↔ _
  rw [nI_smod hk, BitVec.sshiftRight'_ofNat_eq_sshiftRight, Nat.mod_eq_of_lt (by omega)]
  have h1 : ((BitVec.ofNat 32 s).sshiftRight k).getLsbD 0 = s.testBit k := by
    rw [BitVec.getLsbD_sshiftRight, if_pos (by omega), BitVec.getLsbD_ofNat]
    simp [hk]
  constructor
  · intro h
    have h2 := congrArg (fun x => x.getLsbD 0) h
    simp only [BitVec.getLsbD_and] at h2
    rw [h1] at h2
    simpa using h2
  · intro h
    apply BitVec.eq_of_getLsbD_eq
    intro i hi
    rw [BitVec.getLsbD_and]
    by_cases h0 : i = 0
    · subst h0
      rw [h1, h]
      rfl
    · have : (1#32).getLsbD i = false := by
        rw [BitVec.getLsbD_one]
        simp [h0]
      rw [this, Bool.and_false, BitVec.getLsbD_zero]
/-- how many bits -/
def pcn (k : Nat) : Nat := foN (fun i a => a + (if k.testBit i then 1 else 0)) 6 0
theorem e_bitCount {k : Nat} (hk : k < 64) : nJ6_bitCount_0f7a4 (nI k) = some (nI (pcn k)) := by
  have h : ∀ k, k < 64 → nJ6_bitCount_0f7a4 (nI k) = some (nI (pcn k)) := by decide +kernel
  exact h k hk
/-- the places of some fields -/
def msk (S : Nat) (n : Nat) : Nat := foN (fun f a => if S.testBit f then a ||| (7 <<< (3 * f)) else a) n 0
theorem e_part {c S : Nat} : nX1_part (nI c) (nI S) = some (nI (c &&& msk S 5)) := by
  unfold nX1_part
  refine wh_seq (fun i => (nI (msk S i), nI i)) 5 (fun i hi => ?_) ?_
  · show wX1_part_4 (nI c) (nI S) (nI (msk S i), nI i) = some (Sum.inl (nI (msk S (i + 1)), nI (i + 1)))
    unfold wX1_part_4
    rw [if_neg (by rw [show (5 : Int32) = nI 5 from rfl, nN_le (by omega) (by omega)]; omega)]
    show (if nI S >>> (nI i &&& 31) &&& 1 = 0 then some (Sum.inl (nI (msk S i), nI i + 1)) else some (Sum.inl (nI (msk S i) ||| (7 : Int32) <<< ((3 : Int32) * nI i &&& 31), nI i + 1))) = _
    rw [nI_s, show (3 : Int32) = nI 3 from rfl, nI_mul, show (7 : Int32) = nI 7 from rfl, nI_shlg (by omega), nI_or]
    have e : msk S (i + 1) = if S.testBit i then msk S i ||| (7 <<< (3 * i)) else msk S i := rfl
    rw [e]
    by_cases h : S.testBit i = true
    · rw [if_neg (fun q => by rw [(nI_bitg (by omega)).mp q] at h; cases h), if_pos h]
    · rw [if_pos ((nI_bitg (by omega)).mpr (by simpa using h)), if_neg h]
  · show wX1_part_4 (nI c) (nI S) (nI (msk S 5), nI 5) = _
    unfold wX1_part_4
    rw [if_pos (show (5 : Int32) ≤ nI 5 from Int32.le_refl _)]
    show zex (some (nI c &&& nI (msk S 5))) = _
    rw [nI_and]
    rfl
theorem msk_bit (S : Nat) : ∀ n, n ≤ 5 → ∀ f, f < 5 → ∀ i, i < 3 → (msk S n).testBit (3 * f + i) = (decide (f < n) && S.testBit f) := by
  intro n
  induction n with
  | zero => intro _ f _ i _; simp [msk, foN]
  | succ n ih =>
    intro hn f hf i hi
    have h2 : ∀ n, n < 5 → ∀ f, f < 5 → ∀ i, i < 3 → (7 <<< (3 * n)).testBit (3 * f + i) = decide (f = n) := by decide
    have e : msk S (n + 1) = if S.testBit n then msk S n ||| (7 <<< (3 * n)) else msk S n := rfl
    rw [e]
    by_cases h : S.testBit n = true
    · rw [if_pos h, Nat.testBit_or, ih (by omega) f hf i hi, h2 n (by omega) f hf i hi]
      by_cases hfn : f = n
      · subst hfn
        simp [h]
      · by_cases h3 : f < n
        · simp [h3, hfn, Nat.lt_succ_of_lt h3]
        · have h4 : ¬ f < n + 1 := by omega
          simp [h3, hfn, h4]
    · rw [if_neg h, ih (by omega) f hf i hi]
      by_cases hfn : f = n
      · subst hfn
        simp [h]
      · by_cases h3 : f < n
        · simp [h3, Nat.lt_succ_of_lt h3]
        · have h4 : ¬ f < n + 1 := by omega
          simp [h3, h4]
def bld (c d S : Nat) : Nat := (c &&& msk (S ^^^ 4294967295) 5) ||| (d &&& msk S 5)
theorem e_blend {c d S : Nat} : nX1_blend (nI c) (nI d) (nI S) = some (nI (bld c d S)) := by
  unfold nX1_blend
  rw [nI_m1, nI_xor, e_part]
  show (nX1_part (nI d) (nI S)).bind _ = _
  rw [e_part]
  show some (nI _ ||| nI _) = _
  rw [nI_or]
  rfl
theorem rv_and {c m f : Nat} {b : Bool} (h : ∀ i, i < 3 → m.testBit (3 * f + i) = b) : rv (c &&& m) f = if b then rv c f else 0 := by
  apply Nat.eq_of_testBit_eq
  intro i
  rw [rv_bit, Nat.testBit_and]
  by_cases hi : i < 3
  · rw [h i hi]
    cases b
    · simp
    · simp [rv_bit, hi]
  · cases b
    · simp [hi]
    · simp [rv_bit, hi]
theorem rv_or (c d f : Nat) : rv (c ||| d) f = rv c f ||| rv d f := by
  apply Nat.eq_of_testBit_eq
  intro i
  rw [rv_bit, Nat.testBit_or, Nat.testBit_or, rv_bit, rv_bit]
  cases decide (i < 3) <;> simp
theorem rv_bld {c d S f : Nat} (hf : f < 5) : rv (bld c d S) f = if S.testBit f then rv d f else rv c f := by
  unfold bld
  have hx : (S ^^^ 4294967295).testBit f = !S.testBit f := by
    have : (4294967295 : Nat).testBit f = true := by
      have h : ∀ f, f < 5 → (4294967295 : Nat).testBit f = true := by decide
      exact h f hf
    rw [Nat.testBit_xor, this]
    cases S.testBit f <;> rfl
  rw [rv_or, rv_and (b := !S.testBit f) (fun i hi => by rw [msk_bit _ 5 (by omega) f hf i hi, hx]; simp [hf]), rv_and (b := S.testBit f) (fun i hi => by rw [msk_bit _ 5 (by omega) f hf i hi]; simp [hf])]
  cases S.testBit f
  · simp
  · simp
theorem bld_lt {c d S : Nat} (hc : c < 32768) (hd : d < 32768) : bld c d S < 32768 := Nat.or_lt_two_pow (n := 15) (Nat.lt_of_le_of_lt Nat.and_le_left hc) (Nat.lt_of_le_of_lt Nat.and_le_left hd)
/-- the answers as digits -/
def dgt (c : Nat) (n : Nat) : Nat := foN (fun f a => a * 10 + (rv c f - 1)) n 0
theorem dgt_lt {c : Nat} : ∀ n, n ≤ 5 → dgt c n < 10 ^ n := by
  intro n
  induction n with
  | zero => intro _; exact Nat.one_pos
  | succ n ih =>
    intro hn
    have h1 := ih (by omega)
    have h2 := rv_lt c n
    have e : dgt c (n + 1) = dgt c n * 10 + (rv c n - 1) := rfl
    rw [e, Nat.pow_succ]
    omega
theorem e_toDigits {c n : Nat} (hc : c < 32768) (hn : n ≤ 5) (hv : ∀ f, f < n → rv c f ≠ 0) : nX1_toDigits (nI c) (nI n) = some (nI (dgt c n)) := by
  unfold nX1_toDigits
  refine wh_seq (fun i => (nI (dgt c i), nI i)) n (fun i hi => ?_) ?_
  · show wX1_toDigits_4 (nI c) (nI n) (nI (dgt c i), nI i) = some (Sum.inl (nI (dgt c (i + 1)), nI (i + 1)))
    unfold wX1_toDigits_4
    rw [if_neg (by rw [nN_le (by omega) (by omega)]; omega), e_answerAt hc (by omega)]
    show some (Sum.inl (nI (dgt c i) * (10 : Int32) + nJ (rv c i), nI i + 1)) = _
    have h := hv i hi
    have e1 : nJ (rv c i) = nI (rv c i - 1) := by
      obtain ⟨k, hk⟩ := Nat.exists_eq_succ_of_ne_zero h
      rw [hk]
      exact nJ_s k
    rw [e1, show (10 : Int32) = nI 10 from rfl, nI_mul, nN_add, nI_s]
    rfl
  · show wX1_toDigits_4 (nI c) (nI n) (nI (dgt c n), nI n) = _
    unfold wX1_toDigits_4
    rw [if_pos (Int32.le_refl _)]
    rfl
