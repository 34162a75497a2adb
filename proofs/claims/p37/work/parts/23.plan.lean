
/-! ===== what a text tells, and where the class holds it ===== -/
/-- fields, values, weights, scaled, group (9: none), edits, their sets, names -/
abbrev zPl : Type := Nat × (Nat → Nat) × (Nat → Nat) × (Nat → Nat) × Nat × Nat × (Nat → Nat → Nat) × (Nat → List Nat)
abbrev pn (P : zPl) : Nat := P.1
abbrev pq (P : zPl) : Nat → Nat := P.2.1
abbrev pw (P : zPl) : Nat → Nat := P.2.2.1
abbrev ps (P : zPl) : Nat → Nat := P.2.2.2.1
abbrev pg (P : zPl) : Nat := P.2.2.2.2.1
abbrev pm (P : zPl) : Nat := P.2.2.2.2.2.1
abbrev pE (P : zPl) : Nat → Nat → Nat := P.2.2.2.2.2.2.1
abbrev pl (P : zPl) : Nat → List Nat := P.2.2.2.2.2.2.2
def pOK (P : zPl) : Prop := pn P ≤ 5 ∧ (∀ f, f < pn P → 2 ≤ pq P f ∧ pq P f ≤ 5 ∧ 1 ≤ pw P f ∧ pw P f ≤ 9 ∧ ps P f ≤ 1) ∧ (∀ f, f < pn P → (pl P f).length ≤ 6 ∧ ∀ c ∈ pl P f, 97 ≤ c ∧ c ≤ 122) ∧ pm P ≤ 6 ∧ (∀ e, e < pm P → ∀ f, f < pn P → pE P e f < 2 ^ pq P f) ∧ (pg P < pn P ∨ pg P = 9) ∧ (pn P = 0 → pm P = 0)
/-- a group's number: 9 is none -/
def gI (k : Nat) : Int32 := if k = 9 then -1 else nI k
/-- the class's plan -/
def cP (P : zPl) (g : zS) : Prop := g.1 3 0 = nI (pn P) ∧ (∀ f, f < pn P → g.1 4 f = nI (pq P f)) ∧ (∀ f, f < pn P → g.1 5 f = nI (pw P f)) ∧ (∀ f, f < pn P → g.1 6 f = nI (ps P f)) ∧ g.1 3 6 = gI (pg P) ∧ g.1 3 7 = nI (pm P) ∧ (∀ e, e < pm P → ∀ f, f < pn P → g.1 9 (e * 5 + f) = nI (pE P e f)) ∧ ∀ f, f < pn P → g.1 8 f = nI (pl P f).length ∧ ∀ k, k < (pl P f).length → g.1 7 (f * 6 + k) = nI ((pl P f).getD k 0)
theorem nN_eq0 {a : Nat} (ha : a < 2147483648) : nI a = 0 ↔ a = 0 := nN_eq (b := 0) ha (by omega)
section Pl
variable {P : zPl} {g : zS}
theorem e_allFields (hO : pOK P) (hP : cP P g) : nX6_allFields g = some (nI (2 ^ pn P - 1)) := by
  unfold nX6_allFields
  have h5 := hO.1
  rw [hP.1, nI_shl (by omega), show (1 : Int32) = nI 1 from rfl, nI_sub Nat.one_le_two_pow]
theorem e_allEdits (hO : pOK P) (hP : cP P g) : nX6_allEdits g = some (nI (2 ^ pm P - 1)) := by
  unfold nX6_allEdits
  have h5 := hO.2.2.2.1
  rw [hP.2.2.2.2.2.1, nI_shl (by omega), show (1 : Int32) = nI 1 from rfl, nI_sub Nat.one_le_two_pow]
theorem e_allValues (hO : pOK P) (hP : cP P g) {f : Nat} (hf : f < pn P) : nX6_allValues (nI f) g = some (nI (2 ^ pq P f - 1)) := by
  unfold nX6_allValues
  have h5 := hO.1
  have h6 := hO.2.1 f hf
  rw [zchk_t (zin_nI (by omega) (by omega)), nI_cl (by omega), hP.2.1 f hf, nI_shl (by omega), show (1 : Int32) = nI 1 from rfl, nI_sub Nat.one_le_two_pow]
theorem e_editSet (hO : pOK P) (hP : cP P g) {e f : Nat} (he : e < pm P) (hf : f < pn P) : nX6_editSet (nI e) (nI f) g = some (nI (pE P e f)) := by
  unfold nX6_editSet
  have h5 := hO.1
  have h6 := hO.2.2.2.1
  rw [show (5 : Int32) = nI 5 from rfl, nI_mul, nN_add, zchk_t (zin_nI (by omega) (by omega)), nI_cl (by omega), hP.2.2.2.2.2.2.1 e he f hf]
/-- the weight of a set of fields below n -/
def wSum (P : zPl) (S : Nat) (n : Nat) : Nat := foN (fun f a => if S.testBit f then a + pw P f else a) n 0
theorem wSum_le (hO : pOK P) (S : Nat) : ∀ n, n ≤ pn P → wSum P S n ≤ 9 * n := by
  intro n
  induction n with
  | zero => intro _; exact Nat.le_refl _
  | succ n ih =>
    intro hn
    have h1 := ih (by omega)
    have h2 := hO.2.1 n (by omega)
    have e : wSum P S (n + 1) = if S.testBit n then wSum P S n + pw P n else wSum P S n := rfl
    rw [e]
    split <;> omega
theorem e_weightOf (hO : pOK P) (hP : cP P g) {S : Nat} : nX6_weightOf (nI S) g = some (nI (wSum P S (pn P))) := by
  have h5 := hO.1
  unfold nX6_weightOf
  refine wh_seq (fun i => (nI (wSum P S i), nI i)) (pn P) (fun i hi => ?_) ?_
  · show wX6_weightOf_4 (nI S) g (nI (wSum P S i), nI i) = some (Sum.inl (nI (wSum P S (i + 1)), nI (i + 1)))
    unfold wX6_weightOf_4
    have e : wSum P S (i + 1) = if S.testBit i then wSum P S i + pw P i else wSum P S i := rfl
    show (if g.1 3 0 ≤ nI i then _ else if nI S >>> (nI i &&& 31) &&& 1 = 0 then some (Sum.inl (nI (wSum P S i), nI i + 1)) else zchk (zin (nI i) 5) (some (Sum.inl (nI (wSum P S i) + g.1 5 (nI i).toNatClampNeg, nI i + 1)))) = _
    rw [hP.1, if_neg (by rw [nN_le (by omega) (by omega)]; omega), nI_s, e]
    by_cases h : S.testBit i = true
    · rw [if_neg (fun q => by rw [(nI_bitg (by omega)).mp q] at h; cases h), if_pos h, zchk_t (zin_nI (by omega) (by omega)), nI_cl (by omega), hP.2.2.1 i hi, nN_add]
    · rw [if_pos ((nI_bitg (by omega)).mpr (by simpa using h)), if_neg h]
  · show wX6_weightOf_4 (nI S) g (nI (wSum P S (pn P)), nI (pn P)) = _
    unfold wX6_weightOf_4
    rw [if_pos (by rw [hP.1]; exact Int32.le_refl _)]
    rfl
/-- how many forms -/
def pF (P : zPl) (n : Nat) : Nat := foN (fun f a => a * pq P f) n 1
theorem pF_le (hO : pOK P) : ∀ n, n ≤ pn P → pF P n ≤ 5 ^ n := by
  intro n
  induction n with
  | zero => intro _; exact Nat.le_refl _
  | succ n ih =>
    intro hn
    have h1 := ih (by omega)
    have h2 := hO.2.1 n (by omega)
    have e : pF P (n + 1) = pF P n * pq P n := rfl
    rw [e, Nat.pow_succ]
    exact Nat.mul_le_mul h1 h2.2.1
theorem e_allForms (hO : pOK P) (hP : cP P g) : nX6_allForms g = some (nI (if pn P = 0 then 0 else pF P (pn P))) := by
  have h5 := hO.1
  have go : ∀ k, wh (wX6_allForms_15 g) (nI k, (0 : Int32)) = some (nI (k * pF P (pn P))) := by
    intro k
    have h : wh (wX6_allForms_15 g) (nI (k * pF P 0), nI 0) = some (nI (k * pF P (pn P))) := by
     refine wh_seq (fun i => (nI (k * pF P i), nI i)) (pn P) (fun i hi => ?_) ?_
     · show wX6_allForms_15 g (nI (k * pF P i), nI i) = some (Sum.inl (nI (k * pF P (i + 1)), nI (i + 1)))
       unfold wX6_allForms_15
       show (if g.1 3 0 ≤ nI i then _ else zchk (zin (nI i) 5) (some (Sum.inl (nI (k * pF P i) * g.1 4 (nI i).toNatClampNeg, nI i + 1)))) = _
       rw [hP.1, if_neg (by rw [nN_le (by omega) (by omega)]; omega), zchk_t (zin_nI (by omega) (by omega)), nI_cl (by omega), hP.2.1 i hi, nI_mul, nI_s]
       have e : pF P (i + 1) = pF P i * pq P i := rfl
       rw [e, Nat.mul_assoc]
     · show wX6_allForms_15 g (nI (k * pF P (pn P)), nI (pn P)) = _
       unfold wX6_allForms_15
       rw [if_pos (by rw [hP.1]; exact Int32.le_refl _)]
       rfl
    have e : k * pF P 0 = k := Nat.mul_one k
    rw [e] at h
    exact h
  unfold nX6_allForms
  rw [hP.1]
  by_cases h : pn P = 0
  · rw [if_pos (by rw [h]; rfl), if_pos h]
    have := go 0
    rw [Nat.zero_mul] at this
    exact this
  · rw [if_neg (fun q => h ((nN_eq0 (by omega)).mp q)), if_neg h]
    have := go 1
    rw [Nat.one_mul] at this
    exact this
/-- a row that the plan can have -/
def rOK (P : zPl) (c : Nat) : Prop := c < 32768 ∧ (∀ f, f < pn P → rv c f ≤ pq P f) ∧ ∀ f, pn P ≤ f → f < 5 → rv c f = 0
/-- how unlike two answers are in a field -/
def unl (P : zPl) (f a b : Nat) : Nat := if a = b then 0 else if ps P f = 0 then 1 else if a = 0 ∨ b = 0 then pq P f else if a < b then b - a else a - b
theorem unl_le (hO : pOK P) {f a b : Nat} (hf : f < pn P) (ha : a ≤ pq P f) (hb : b ≤ pq P f) : unl P f a b ≤ 5 := by
  have h2 := hO.2.1 f hf
  unfold unl
  split
  · omega
  split
  · omega
  split
  · omega
  split <;> omega
theorem e_apart (hO : pOK P) (hP : cP P g) {f a b : Nat} (hf : f < pn P) (ha : a ≤ pq P f) (hb : b ≤ pq P f) : nX6_apart (nI f) (nJ a) (nJ b) g = some (nI (unl P f a b)) := by
  have h5 := hO.1
  have h2 := hO.2.1 f hf
  unfold nX6_apart unl
  by_cases hab : a = b
  · rw [if_pos ((nJ_eq (by omega) (by omega)).mpr hab), if_pos hab]
    rfl
  rw [if_neg (fun q => hab ((nJ_eq (by omega) (by omega)).mp q)), if_neg hab, zchk_t (zin_nI (by omega) (by omega)), nI_cl (by omega), hP.2.2.2.1 f hf]
  by_cases hs : ps P f = 0
  · rw [if_pos (by rw [hs]; rfl), if_pos hs]
    rfl
  rw [if_neg (fun q => hs ((nN_eq0 (by omega)).mp q)), if_neg hs]
  have hm : jX6_apart_28 (nI f) g = some (nI (pq P f)) := by
    unfold jX6_apart_28
    rw [zchk_t (zin_nI (by omega) (by omega)), nI_cl (by omega), hP.2.1 f hf]
  by_cases h0 : a = 0
  · rw [if_pos ((nJ_m1 (by omega)).mpr h0), hm, if_pos (Or.inl h0)]
  rw [if_neg (fun q => h0 ((nJ_m1 (by omega)).mp q))]
  by_cases h1 : b = 0
  · rw [if_pos ((nJ_m1 (by omega)).mpr h1), hm, if_pos (Or.inr h1)]
  rw [if_neg (fun q => h1 ((nJ_m1 (by omega)).mp q))]
  have hd : ∀ a, a < 6 → ∀ b, b < 6 → (if (0 : Int32) ≤ nJ a - nJ b then nJ a - nJ b else 0 - (nJ a - nJ b)) = nI (if a < b then b - a else a - b) := by decide
  rw [hd a (by omega) b (by omega), if_neg (fun q : a = 0 ∨ b = 0 => q.elim h0 h1)]
/-- how far two rows are in the fields below n that are not in a set -/
def far (P : zPl) (c d S : Nat) (n : Nat) : Nat := foN (fun f a => if S.testBit f then a else a + pw P f * unl P f (rv c f) (rv d f)) n 0
theorem far_le (hO : pOK P) {c d : Nat} (hc : rOK P c) (hd : rOK P d) (S : Nat) : ∀ n, n ≤ pn P → far P c d S n ≤ 45 * n := by
  intro n
  induction n with
  | zero => intro _; exact Nat.le_refl _
  | succ n ih =>
    intro hn
    have h1 := ih (by omega)
    have h2 := hO.2.1 n (by omega)
    have h3 := unl_le hO (f := n) (by omega) (hc.2.1 n (by omega)) (hd.2.1 n (by omega))
    have h4 : pw P n * unl P n (rv c n) (rv d n) ≤ 9 * 5 := Nat.mul_le_mul h2.2.2.2.1 h3
    have e : far P c d S (n + 1) = if S.testBit n then far P c d S n else far P c d S n + pw P n * unl P n (rv c n) (rv d n) := rfl
    rw [e]
    split <;> omega
theorem e_farApart (hO : pOK P) (hP : cP P g) {c d S : Nat} (hc : rOK P c) (hd : rOK P d) : nX6_farApart (nI c) (nI d) (nI S) g = some (nI (far P c d S (pn P))) := by
  have h5 := hO.1
  unfold nX6_farApart
  refine wh_seq (fun i => (nI (far P c d S i), nI i)) (pn P) (fun i hi => ?_) ?_
  · show wX6_farApart_6 (nI c) (nI d) (nI S) g (nI (far P c d S i), nI i) = some (Sum.inl (nI (far P c d S (i + 1)), nI (i + 1)))
    unfold wX6_farApart_6
    have e : far P c d S (i + 1) = if S.testBit i then far P c d S i else far P c d S i + pw P i * unl P i (rv c i) (rv d i) := rfl
    show (if g.1 3 0 ≤ nI i then _ else if nI S >>> (nI i &&& 31) &&& 1 = 0 then zchk (zin (nI i) 5) ((nX1_answerAt (nI c) (nI i)).bind fun v1 => (nX1_answerAt (nI d) (nI i)).bind fun v2 => (nX6_apart (nI i) v1 v2 g).bind fun v3 => some (Sum.inl (nI (far P c d S i) + g.1 5 (nI i).toNatClampNeg * v3, nI i + 1))) else some (Sum.inl (nI (far P c d S i), nI i + 1))) = _
    rw [hP.1, if_neg (by rw [nN_le (by omega) (by omega)]; omega), nI_s, e]
    by_cases h : S.testBit i = true
    · rw [if_neg (fun q => by rw [(nI_bitg (by omega)).mp q] at h; cases h), if_pos h]
    · rw [if_pos ((nI_bitg (by omega)).mpr (by simpa using h)), if_neg h, zchk_t (zin_nI (by omega) (by omega)), nI_cl (by omega), hP.2.2.1 i hi, e_answerAt hc.1 (by omega), e_answerAt hd.1 (by omega)]
      show (nX6_apart (nI i) (nJ (rv c i)) (nJ (rv d i)) g).bind _ = _
      rw [e_apart hO hP hi (hc.2.1 i hi) (hd.2.1 i hi)]
      show some (Sum.inl (nI _ + nI _ * nI _, _)) = _
      rw [nI_mul, nN_add]
  · show wX6_farApart_6 (nI c) (nI d) (nI S) g (nI (far P c d S (pn P)), nI (pn P)) = _
    unfold wX6_farApart_6
    rw [if_pos (by rw [hP.1]; exact Int32.le_refl _)]
    rfl
end Pl
