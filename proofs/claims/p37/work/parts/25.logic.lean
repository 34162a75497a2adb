
/-! ===== which edits are left open, by which sets a row can be mended ===== -/
/-- the edits whose sets have a value -/
def pT (P : zPl) (f v : Nat) : Nat := bS (fun e => (pE P e f).testBit v) (pm P)
/-- the edits that do not look at a field -/
def pC (P : zPl) (f : Nat) : Nat := foN (fun v a => a &&& pT P f v) (pq P f) (2 ^ pm P - 1)
def eoa (P : zPl) (f k : Nat) : Nat := if k = 0 then pC P f else pT P f (k - 1)
def cE (P : zPl) (g : zS) : Prop := ∀ f, f < pn P → ∀ k, k ≤ pq P f → g.1 21 (f * 6 + k) = nI (eoa P f k)
theorem pT_lt (P : zPl) (f v : Nat) : pT P f v < 2 ^ pm P := bS_lt _ _
theorem pT_bit (P : zPl) (f v e : Nat) : (pT P f v).testBit e = (decide (e < pm P) && (pE P e f).testBit v) := bS_bit _ _ _
theorem p2m {P : zPl} (hO : pOK P) : 2 ^ pm P ≤ 64 := by
  have h := hO.2.2.2.1
  exact Nat.pow_le_pow_right (n := 2) (by omega) h
theorem p2n {P : zPl} (hO : pOK P) : 2 ^ pn P ≤ 32 := Nat.pow_le_pow_right (n := 2) (by omega) hO.1
theorem pC_bit (P : zPl) (f e : Nat) : (pC P f).testBit e = true ↔ e < pm P ∧ ∀ v, v < pq P f → (pE P e f).testBit v = true := by
  have h : ∀ k, (foN (fun v a => a &&& pT P f v) k (2 ^ pm P - 1)).testBit e = true ↔ e < pm P ∧ ∀ v, v < k → (pE P e f).testBit v = true := by
    intro k
    induction k with
    | zero =>
      show (2 ^ pm P - 1).testBit e = true ↔ _
      rw [Nat.testBit_two_pow_sub_one, decide_eq_true_eq]
      exact ⟨fun h => ⟨h, fun v hv => absurd hv (Nat.not_lt_zero v)⟩, fun h => h.1⟩
    | succ k ih =>
      show ((foN (fun v a => a &&& pT P f v) k (2 ^ pm P - 1)) &&& pT P f k).testBit e = true ↔ _
      rw [Nat.testBit_and, Bool.and_eq_true, ih, pT_bit, Bool.and_eq_true, decide_eq_true_eq]
      constructor
      · rintro ⟨⟨h1, h2⟩, -, h3⟩
        refine ⟨h1, fun v hv => ?_⟩
        by_cases hvk : v = k
        · rw [hvk]; exact h3
        · exact h2 v (by omega)
      · rintro ⟨h1, h2⟩
        exact ⟨⟨h1, fun v hv => h2 v (by omega)⟩, h1, h2 k (Nat.lt_succ_self k)⟩
  exact h _
theorem eoa_bit (P : zPl) (f k e : Nat) : (eoa P f k).testBit e = true ↔ e < pm P ∧ (k = 0 → ∀ v, v < pq P f → (pE P e f).testBit v = true) ∧ (k ≠ 0 → (pE P e f).testBit (k - 1) = true) := by
  unfold eoa
  by_cases hk : k = 0
  · rw [if_pos hk, pC_bit]
    exact ⟨fun h => ⟨h.1, fun _ => h.2, fun q => absurd hk q⟩, fun h => ⟨h.1, h.2.1 hk⟩⟩
  · rw [if_neg hk, pT_bit, Bool.and_eq_true, decide_eq_true_eq]
    exact ⟨fun h => ⟨h.1, fun q => absurd q hk, fun _ => h.2⟩, fun h => ⟨h.1, h.2.2 hk⟩⟩
section Lo
variable {P : zPl} {g : zS}
theorem e_editsWith (hO : pOK P) (hP : cP P g) {f v : Nat} (hf : f < pn P) (hv : v < 32) : nX5_editsWith (nI f) (nI v) g = some (nI (pT P f v)) := by
  have h5 := hO.1
  have h6 := hO.2.2.2.1
  unfold nX5_editsWith
  refine wh_seq (fun i => (nI (bS (fun e => (pE P e f).testBit v) i), nI i)) (pm P) (fun i hi => ?_) ?_
  · dsimp only [wX5_editsWith_5]
    rw [hP.2.2.2.2.2.1, if_neg (by rw [nN_le (by omega) (by omega)]; omega), nI_s, e_editSet hO hP hi hf]
    dsimp only [Option.bind_some]
    rw [bS]
    by_cases h : (pE P i f).testBit v = true
    · rw [if_neg (fun q => by rw [(nI_bitg hv).mp q] at h; cases h), if_pos h, nI_shl (by omega), nI_or]
    · rw [if_pos ((nI_bitg hv).mpr (by simpa using h)), if_neg h]
  · dsimp only [wX5_editsWith_5]
    rw [if_pos (by rw [hP.2.2.2.2.2.1]; exact Int32.le_refl _)]
    rfl
theorem e_editsOfAnswer (hO : pOK P) (hE : cE P g) {f k : Nat} (hf : f < pn P) (hk : k ≤ pq P f) : nX5_editsOfAnswer (nI f) (nJ k) g = some (nI (eoa P f k)) := by
  have h5 := hO.1
  have h2 := hO.2.1 f hf
  unfold nX5_editsOfAnswer
  have e : nI f * (6 : Int32) + (1 : Int32) + nJ k = nI (f * 6 + k) := by
    rw [show (6 : Int32) = nI 6 from rfl, nI_mul, Int32.add_assoc, Int32.add_comm 1, nJ_add, nN_add]
  rw [e, zchk_t (zin_nI (by omega) (by omega)), nI_cl (by omega), hE f hf k hk]
theorem e_editsOfValue (hO : pOK P) (hE : cE P g) {f v : Nat} (hf : f < pn P) (hv : v < pq P f) : nX5_editsOfAnswer (nI f) (nI v) g = some (nI (pT P f v)) := by
  have h := e_editsOfAnswer hO hE hf (k := v + 1) (by omega)
  rw [nJ_s] at h
  exact h
/-- the edits that the answers outside of a set leave open, the fields below n looked at -/
def lft (P : zPl) (c S : Nat) (n : Nat) : Nat := foN (fun f a => if S.testBit f then a else a &&& eoa P f (rv c f)) n (2 ^ pm P - 1)
theorem lft_s (P : zPl) (c S n : Nat) : lft P c S (n + 1) = if S.testBit n then lft P c S n else lft P c S n &&& eoa P n (rv c n) := rfl
theorem lft_lt (P : zPl) (c S : Nat) : ∀ n, lft P c S n < 2 ^ pm P := by
  intro n
  induction n with
  | zero =>
    show 2 ^ pm P - 1 < 2 ^ pm P
    have := Nat.one_le_two_pow (n := pm P)
    omega
  | succ n ih =>
    rw [lft_s]
    split
    · exact ih
    · exact Nat.lt_of_le_of_lt Nat.and_le_left ih
theorem lft_bit (P : zPl) (c S e : Nat) : ∀ n, (lft P c S n).testBit e = true ↔ e < pm P ∧ ∀ f, f < n → S.testBit f = false → (eoa P f (rv c f)).testBit e = true := by
  intro n
  induction n with
  | zero =>
    show (2 ^ pm P - 1).testBit e = true ↔ _
    rw [Nat.testBit_two_pow_sub_one, decide_eq_true_eq]
    exact ⟨fun h => ⟨h, fun v hv => absurd hv (Nat.not_lt_zero v)⟩, fun h => h.1⟩
  | succ n ih =>
    rw [lft_s]
    by_cases h : S.testBit n = true
    · rw [if_pos h, ih]
      constructor
      · rintro ⟨h1, h2⟩
        refine ⟨h1, fun f hf hs => ?_⟩
        by_cases hfn : f = n
        · rw [hfn, h] at hs; cases hs
        · exact h2 f (by omega) hs
      · rintro ⟨h1, h2⟩
        exact ⟨h1, fun f hf => h2 f (by omega)⟩
    · rw [if_neg h, Nat.testBit_and, Bool.and_eq_true, ih]
      constructor
      · rintro ⟨⟨h1, h2⟩, h3⟩
        refine ⟨h1, fun f hf hs => ?_⟩
        by_cases hfn : f = n
        · rw [hfn]; exact h3
        · exact h2 f (by omega) hs
      · rintro ⟨h1, h2⟩
        exact ⟨⟨h1, fun f hf => h2 f (by omega)⟩, h2 n (Nat.lt_succ_self n) (by simpa using h)⟩
theorem e_editsLeft (hO : pOK P) (hP : cP P g) (hE : cE P g) {c S : Nat} (hc : rOK P c) : nX5_editsLeft (nI c) (nI S) g = some (nI (lft P c S (pn P))) := by
  have h5 := hO.1
  unfold nX5_editsLeft
  rw [e_allEdits hO hP]
  dsimp only [Option.bind_some]
  refine wh_seq (fun i => (nI (lft P c S i), nI i)) (pn P) (fun i hi => ?_) ?_
  · dsimp only [wX5_editsLeft_11]
    rw [hP.1, if_neg (by rw [nN_le (by omega) (by omega)]; omega), nI_s, lft_s]
    by_cases h : S.testBit i = true
    · rw [if_neg (fun q => by rw [(nI_bitg (by omega)).mp q] at h; cases h), if_pos h]
    · rw [if_pos ((nI_bitg (by omega)).mpr (by simpa using h)), if_neg h, e_answerAt hc.1 (by omega)]
      dsimp only [Option.bind_some]
      rw [e_editsOfAnswer hO hE hi (hc.2.1 i hi)]
      dsimp only [Option.bind_some]
      rw [nI_and]
  · dsimp only [wX5_editsLeft_11]
    rw [if_pos (by rw [hP.1]; exact Int32.le_refl _)]
    rfl
theorem e_editsFailed (hO : pOK P) (hP : cP P g) (hE : cE P g) {c : Nat} (hc : rOK P c) : nX5_editsFailed (nI c) g = some (nI (lft P c 0 (pn P))) := by
  unfold nX5_editsFailed
  rw [show (0 : Int32) = nI 0 from rfl, e_editsLeft hO hP hE hc]
  rfl
/-- a row passes -/
def rgt (P : zPl) (c : Nat) : Bool := rmis c (pn P) == 0 && lft P c 0 (pn P) == 0
theorem e_isRight (hO : pOK P) (hP : cP P g) (hE : cE P g) {c : Nat} (hc : rOK P c) : nX5_isRight (nI c) g = some (if rgt P c then 1 else 0) := by
  have h5 := hO.1
  have h6 := p2m hO
  have h7 := p2n hO
  have h8 := lft_lt P c 0 (pn P)
  have h9 : rmis c (pn P) < 2 ^ pn P := bS_lt _ _
  unfold nX5_isRight rgt
  rw [hP.1, e_missingIn hc.1 h5]
  dsimp only [Option.bind_some]
  by_cases h1 : rmis c (pn P) = 0
  · rw [if_pos (by rw [h1]; rfl), show (0 : Int32) = nI 0 from rfl, e_editsLeft hO hP hE hc]
    dsimp only [Option.bind_some]
    by_cases h2 : lft P c 0 (pn P) = 0
    · rw [if_pos (by rw [h2]), h1, h2]
      rfl
    · rw [if_neg (fun q => h2 ((nN_eq (by omega) (by omega)).mp q)), if_neg (by simp [h2])]
  · rw [if_neg (fun q => h1 ((nN_eq0 (by omega)).mp q)), if_neg (by simp [h1])]
def anN (p : Nat → Bool) (n : Nat) : Bool := foN (fun i a => a || p i) n false
theorem anN_iff (p : Nat → Bool) : ∀ n, anN p n = true ↔ ∃ i, i < n ∧ p i = true := by
  intro n
  induction n with
  | zero => exact ⟨fun h => (by cases h), fun ⟨i, hi, _⟩ => absurd hi (Nat.not_lt_zero i)⟩
  | succ n ih =>
    show (anN p n || p n) = true ↔ _
    rw [Bool.or_eq_true, ih]
    constructor
    · rintro (⟨i, hi, h⟩ | h)
      · exact ⟨i, by omega, h⟩
      · exact ⟨n, Nat.lt_succ_self n, h⟩
    · rintro ⟨i, hi, h⟩
      by_cases hin : i = n
      · rw [hin] at h; exact Or.inr h
      · exact Or.inl ⟨i, by omega, h⟩
def afN (P : zPl) (F : Int64) (f V : Nat) (k : Nat) : Int64 := foN (fun v a => if V.testBit v then a ||| ahN F (pT P f v) 6 else a) k 0
theorem afN_s (P : zPl) (F : Int64) (f V k : Nat) : afN P F f V (k + 1) = if V.testBit k then afN P F f V k ||| ahN F (pT P f k) 6 else afN P F f V k := rfl
theorem afN_bit (P : zPl) (F : Int64) (f V : Nat) {x : Nat} (hx : x < 64) : ∀ k, fb (afN P F f V k) x = anN (fun v => V.testBit v && fb F (x &&& pT P f v)) k := by
  intro k
  induction k with
  | zero => exact fb_0 x
  | succ k ih =>
    rw [afN_s]
    show _ = (anN (fun v => V.testBit v && fb F (x &&& pT P f v)) k || (V.testBit k && fb F (x &&& pT P f k)))
    by_cases h : V.testBit k = true
    · rw [if_pos h, fb_or, ah_bit hx, ih, h, Bool.true_and]
    · have h : V.testBit k = false := by simpa using h
      rw [h, if_neg (by simp), ih, Bool.false_and, Bool.or_false]
theorem e_aheadOf (hO : pOK P) (hP : cP P g) (hE : cE P g) (F : Int64) {f V : Nat} (hf : f < pn P) : nX5_aheadOf F (nI f) (nI V) g = some (afN P F f V (pq P f)) := by
  have h5 := hO.1
  have h2 := hO.2.1 f hf
  unfold nX5_aheadOf
  refine wh_seq (fun i => (afN P F f V i, nI i)) (pq P f) (fun i hi => ?_) ?_
  · dsimp only [wX5_aheadOf_6]
    rw [zchk_t (zin_nI (by omega) (by omega)), nI_cl (by omega), hP.2.1 f hf, if_neg (by rw [nN_le (by omega) (by omega)]; omega), nI_s, afN_s]
    by_cases h : V.testBit i = true
    · rw [if_neg (fun q => by rw [(nI_bitg (by omega)).mp q] at h; cases h), if_pos h, e_editsOfValue hO hE hf hi]
      dsimp only [Option.bind_some]
      rw [e_ahead]
      rfl
    · rw [if_pos ((nI_bitg (by omega)).mpr (by simpa using h)), if_neg h]
  · dsimp only [wX5_aheadOf_6]
    rw [zchk_t (zin_nI (by omega) (by omega)), nI_cl (by omega), hP.2.1 f hf, if_pos (Int32.le_refl _)]
    rfl
/-- whether some values of the fields of S below n get rid of the edits x -/
def cur (P : zPl) (S : Nat) : Nat → Nat → Bool
  | 0, x => x == 0
  | f + 1, x => if S.testBit f then anN (fun v => cur P S f (x &&& pT P f v)) (pq P f) else cur P S f x
def cC (P : zPl) (g : zS) : Prop := ∀ S, S < 2 ^ pn P → ∀ x, x < 64 → fb (g.2.1 23 S) x = cur P S (pn P) x
/-- what is missing lies in a set -/
def mSb (c S n : Nat) : Bool := rmis c n &&& (S ^^^ 4294967295) == 0
theorem mSb_iff {c S n : Nat} (hn : n ≤ 5) : mSb c S n = true ↔ ∀ f, f < n → rv c f = 0 → S.testBit f = true := by
  unfold mSb
  rw [beq_iff_eq]
  have hb : ∀ f, f < 5 → (S ^^^ 4294967295).testBit f = !S.testBit f := fun f hf => by
    have h : ∀ f, f < 5 → (4294967295 : Nat).testBit f = true := by decide
    rw [Nat.testBit_xor, h f hf]
    cases S.testBit f <;> rfl
  constructor
  · intro h f hf h0
    have h1 := congrArg (fun z => z.testBit f) h
    rw [Nat.testBit_and, hb f (by omega), Nat.zero_testBit] at h1
    unfold rmis at h1
    rw [bS_bit] at h1
    simpa [hf, h0] using h1
  · intro h
    apply Nat.eq_of_testBit_eq
    intro f
    rw [Nat.testBit_and, Nat.zero_testBit]
    unfold rmis
    rw [bS_bit]
    by_cases hf : f < n
    · rw [hb f (by omega)]
      by_cases h0 : rv c f = 0
      · simp [hf, h0, h f hf h0]
      · simp [hf, h0]
    · simp [hf]
def cmd (P : zPl) (c S : Nat) : Bool := mSb c S (pn P) && cur P S (pn P) (lft P c S (pn P))
theorem e_canMend (hO : pOK P) (hP : cP P g) (hE : cE P g) (hC : cC P g) {c S : Nat} (hc : rOK P c) (hS : S < 2 ^ pn P) : nX5_canMend (nI c) (nI S) g = some (if cmd P c S then 1 else 0) := by
  have h5 := hO.1
  have h6 := p2m hO
  have h7 := p2n hO
  have h8 := lft_lt P c S (pn P)
  have h9 : rmis c (pn P) < 2 ^ pn P := bS_lt _ _
  have hle : rmis c (pn P) &&& (S ^^^ 4294967295) ≤ rmis c (pn P) := Nat.and_le_left
  unfold nX5_canMend cmd mSb
  rw [hP.1, e_missingIn hc.1 h5]
  dsimp only [Option.bind_some]
  rw [nI_m1, nI_xor, nI_and]
  by_cases h1 : rmis c (pn P) &&& (S ^^^ 4294967295) = 0
  · rw [if_pos (by rw [h1]; rfl), zchk_t (zin_nI (by omega) (by omega)), e_editsLeft hO hP hE hc]
    dsimp only [Option.bind_some]
    rw [nI_cl (by omega), e_has (by omega), hC S hS _ (by omega), h1]
    cases cur P S (pn P) (lft P c S (pn P)) <;> rfl
  · rw [if_neg (fun q => h1 ((nN_eq0 (by omega)).mp q)), if_neg (by simp [h1])]
end Lo
