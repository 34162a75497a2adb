
/-! ===== values by a set, the least set ===== -/
theorem firstB (p : Nat → Bool) : ∀ n, (∀ i, i < n → p i = false) ∨ ∃ k, k < n ∧ p k = true ∧ ∀ i, i < k → p i = false := by
  intro n
  induction n with
  | zero => exact Or.inl fun i hi => absurd hi (Nat.not_lt_zero i)
  | succ n ih =>
    rcases ih with h | ⟨k, hk, h1, h2⟩
    · cases hn : p n with
      | false =>
        refine Or.inl fun i hi => ?_
        by_cases hin : i = n
        · rw [hin]; exact hn
        · exact h i (by omega)
      | true => exact Or.inr ⟨n, Nat.lt_succ_self n, hn, h⟩
    · exact Or.inr ⟨k, Nat.lt_succ_of_lt hk, h1, h2⟩
/-- how many below n have it -/
def cnt (p : Nat → Bool) (n : Nat) : Nat := foN (fun i a => if p i then a + 1 else a) n 0
theorem cnt_s (p : Nat → Bool) (n : Nat) : cnt p (n + 1) = if p n then cnt p n + 1 else cnt p n := rfl
theorem cnt_le (p : Nat → Bool) : ∀ n, cnt p n ≤ n := by
  intro n
  induction n with
  | zero => exact Nat.le_refl _
  | succ n ih =>
    rw [cnt_s]
    split <;> omega
theorem cnt_congr {p q : Nat → Bool} : ∀ n, (∀ i, i < n → p i = q i) → cnt p n = cnt q n := by
  intro n
  induction n with
  | zero => intro _; rfl
  | succ n ih =>
    intro h
    rw [cnt_s, cnt_s, h n (Nat.lt_succ_self n), ih fun i hi => h i (by omega)]
theorem cnt_mono (p : Nat → Bool) {i : Nat} : ∀ n, i ≤ n → cnt p i ≤ cnt p n := by
  intro n
  induction n with
  | zero => intro h; rw [Nat.le_zero.mp h]; exact Nat.le_refl _
  | succ n ih =>
    intro h
    by_cases hi : i = n + 1
    · rw [hi]; exact Nat.le_refl _
    · have := ih (by omega)
      rw [cnt_s]
      split <;> omega
/-- the k-th below n that has it; -1 -/
def kth (p : Nat → Bool) (n : Nat) (k : Int32) : Int32 := foN (fun i a => if p i && decide (nI (cnt p i) = k) then nI i else a) n (-1)
theorem kth_s (p : Nat → Bool) (n : Nat) (k : Int32) : kth p (n + 1) k = if p n && decide (nI (cnt p n) = k) then nI n else kth p n k := rfl
theorem kth_none {p : Nat → Bool} {k : Int32} : ∀ n, (∀ i, i < n → (p i && decide (nI (cnt p i) = k)) = false) → kth p n k = -1 := by
  intro n
  induction n with
  | zero => intro _; rfl
  | succ n ih =>
    intro h
    rw [kth_s, h n (Nat.lt_succ_self n), if_neg (by simp), ih fun i hi => h i (by omega)]
theorem kth_some {p : Nat → Bool} {k : Int32} {i : Nat} (h : (p i && decide (nI (cnt p i) = k)) = true) : ∀ n, n < 2147483648 → i < n → kth p n k = nI i := by
  rw [Bool.and_eq_true, decide_eq_true_eq] at h
  intro n
  induction n with
  | zero => intro _ hi; exact absurd hi (Nat.not_lt_zero i)
  | succ n ih =>
    intro hn hi
    rw [kth_s]
    by_cases hin : i = n
    · subst hin
      rw [h.1, h.2]
      simp
    · have h1 := ih (by omega) (by omega)
      rw [if_neg, h1]
      intro q
      rw [Bool.and_eq_true, decide_eq_true_eq] at q
      have h2 := h.2.trans q.2.symm
      have h3 := cnt_le p i
      have h4 := cnt_le p n
      rw [nN_eq (by omega) (by omega)] at h2
      have h5 := cnt_mono p (i := i + 1) n (by omega)
      rw [cnt_s, h.1, if_pos rfl] at h5
      omega
/-- a set without a field -/
def sdl (S f : Nat) : Nat := S &&& (2 ^ f ^^^ 4294967295)
theorem sdl_le (S f : Nat) : sdl S f ≤ S := Nat.and_le_left
theorem sdl_bit {S f i : Nat} (hi : i < 32) : (sdl S f).testBit i = (S.testBit i && decide (i ≠ f)) := by
  have h : ∀ i, i < 32 → (4294967295 : Nat).testBit i = true := by decide
  unfold sdl
  rw [Nat.testBit_and, Nat.testBit_xor, h i hi, Nat.testBit_two_pow]
  by_cases hif : i = f
  · subst hif; simp
  · have : ¬ f = i := fun q => hif q.symm
    simp [hif, this]
/-- the values of a field behind which the set's other fields do the rest -/
def cvS (P : zPl) (E S f : Nat) : Nat := bS (fun v => cur P (sdl S f) (pn P) (E &&& pT P f v)) (pq P f)
/-- the values that a field has in the ways by a set -/
def vIn (P : zPl) (c S f : Nat) : Nat := if cmd P c S then (if S.testBit f then cvS P (lft P c S (pn P)) S f else 2 ^ (rv c f - 1)) else 0
def kO (P : zPl) (S : Nat) : Nat := wSum P S (pn P) * 10000 + pcn S * 100 + S
/-- the sets in the order in which they are least -/
def cL (P : zPl) (g : zS) : Prop := ∃ o : Nat → Nat, (∀ k, k < 2 ^ pn P → g.1 22 k = nI (o k) ∧ o k < 2 ^ pn P) ∧ (∀ S, S < 2 ^ pn P → ∃ k, k < 2 ^ pn P ∧ o k = S) ∧ ∀ i j, i < j → j < 2 ^ pn P → kO P (o i) < kO P (o j)
/-- least of those that mend below N; 99: none -/
def lsN (P : zPl) (c N : Nat) : Nat := foN (fun S b => if cmd P c S && (b == 99 || decide (kO P S < kO P b)) then S else b) N 99
def ls (P : zPl) (c : Nat) : Nat := lsN P c (2 ^ pn P)
theorem lsN_s (P : zPl) (c N : Nat) : lsN P c (N + 1) = if cmd P c N && (lsN P c N == 99 || decide (kO P N < kO P (lsN P c N))) then N else lsN P c N := rfl
theorem lsN_spec (P : zPl) (c : Nat) : ∀ N, N ≤ 99 → (lsN P c N = 99 ∧ ∀ S, S < N → cmd P c S = false) ∨ (lsN P c N < N ∧ cmd P c (lsN P c N) = true ∧ ∀ S, S < N → cmd P c S = true → kO P (lsN P c N) ≤ kO P S) := by
  intro N
  induction N with
  | zero => intro _; exact Or.inl ⟨rfl, fun S hS => absurd hS (Nat.not_lt_zero S)⟩
  | succ N ih =>
    intro hN
    rw [lsN_s]
    rcases ih (by omega) with ⟨h1, h2⟩ | ⟨h1, h2, h3⟩
    · rw [h1]
      cases hc : cmd P c N with
      | false =>
        refine Or.inl ⟨rfl, fun S hS => ?_⟩
        by_cases hSN : S = N
        · rw [hSN]; exact hc
        · exact h2 S (by omega)
      | true =>
        refine Or.inr ?_
        show N < N + 1 ∧ cmd P c N = true ∧ _
        refine ⟨Nat.lt_succ_self N, hc, fun S hS hcS => ?_⟩
        by_cases hSN : S = N
        · rw [hSN]; exact Nat.le_refl _
        · rw [h2 S (by omega)] at hcS; cases hcS
    · have h99 : (lsN P c N == 99) = false := by
        rw [beq_eq_false_iff_ne]
        omega
      rw [h99, Bool.false_or]
      refine Or.inr ?_
      cases hb : (cmd P c N && decide (kO P N < kO P (lsN P c N))) with
      | true =>
        rw [if_pos rfl]
        rw [Bool.and_eq_true, decide_eq_true_eq] at hb
        refine ⟨Nat.lt_succ_self N, hb.1, fun S hS hcS => ?_⟩
        by_cases hSN : S = N
        · rw [hSN]; exact Nat.le_refl _
        · have := h3 S (by omega) hcS
          omega
      | false =>
        rw [if_neg (by simp)]
        refine ⟨by omega, h2, fun S hS hcS => ?_⟩
        by_cases hSN : S = N
        · subst hSN
          rw [hcS, Bool.true_and, decide_eq_false_iff_not] at hb
          omega
        · exact h3 S (by omega) hcS
theorem ls_spec {P : zPl} (hO : pOK P) (c : Nat) : (ls P c = 99 ∧ ∀ S, S < 2 ^ pn P → cmd P c S = false) ∨ (ls P c < 2 ^ pn P ∧ cmd P c (ls P c) = true ∧ ∀ S, S < 2 ^ pn P → cmd P c S = true → kO P (ls P c) ≤ kO P S) := lsN_spec P c _ (by have := p2n hO; omega)
def sI (k : Nat) : Int32 := if k = 99 then -1 else nI k
/-- the weight of the least set; 999: none -/
def lw (P : zPl) (c : Nat) : Nat := if ls P c = 99 then 999 else wSum P (ls P c) (pn P)
def wI (k : Nat) : Int32 := if k = 999 then -1 else nI k
/-- a set that mends by the least weight -/
def lsB (P : zPl) (c S : Nat) : Bool := wSum P S (pn P) == lw P c && cmd P c S
theorem nN_eqm {a : Nat} (ha : a < 2147483648) : nI a = nI 4294967295 ↔ False := ⟨fun h => by
  have h2 := nI_nn ha
  rw [h] at h2
  exact h2 (by decide), False.elim⟩
section Le
variable {P : zPl} {g : zS}
theorem e_curingValues (hO : pOK P) (hP : cP P g) (hE : cE P g) (hC : cC P g) {E S f : Nat} (hE6 : E < 64) (hS : S < 2 ^ pn P) (hf : f < pn P) : nX5_curingValues (nI E) (nI S) (nI f) g = some (nI (cvS P E S f)) := by
  have h5 := hO.1
  have h2 := hO.2.1 f hf
  have h7 := p2n hO
  have hd := sdl_le S f
  unfold nX5_curingValues
  refine wh_seq (fun i => (nI (bS (fun v => cur P (sdl S f) (pn P) (E &&& pT P f v)) i), nI i)) (pq P f) (fun i hi => ?_) ?_
  · dsimp only [wX5_curingValues_6]
    have e : nI S &&& ((1 : Int32) <<< (nI f &&& 31) ^^^ (-1 : Int32)) = nI (sdl S f) := by rw [nI_shl (by omega), nI_m1, nI_xor, nI_and]; rfl
    rw [zchk_t (zin_nI (by omega) (by omega)), nI_cl (by omega), hP.2.1 f hf, if_neg (by rw [nN_le (by omega) (by omega)]; omega), e, zchk_t (zin_nI (by omega) (by omega)), e_editsOfValue hO hE hf hi]
    dsimp only [Option.bind_some]
    have hle : E &&& pT P f i < 64 := Nat.lt_of_le_of_lt Nat.and_le_left hE6
    rw [nI_cl (by omega), nI_and, e_has hle, hC _ (by omega) _ hle, nI_s, bS]
    dsimp only [Option.bind_some]
    cases cur P (sdl S f) (pn P) (E &&& pT P f i) with
    | false => rfl
    | true =>
      show some (Sum.inl (nI _ ||| (1 : Int32) <<< (nI i &&& 31), _)) = _
      rw [nI_shl (by omega), nI_or]
      rfl
  · dsimp only [wX5_curingValues_6]
    rw [zchk_t (zin_nI (by omega) (by omega)), nI_cl (by omega), hP.2.1 f hf, if_pos (Int32.le_refl _)]
    rfl
theorem e_valuesIn (hO : pOK P) (hP : cP P g) (hE : cE P g) (hC : cC P g) {c S f : Nat} (hc : rOK P c) (hS : S < 2 ^ pn P) (hf : f < pn P) : nX5_valuesIn (nI c) (nI S) (nI f) g = some (nI (vIn P c S f)) := by
  have h5 := hO.1
  have h2 := hO.2.1 f hf
  unfold nX5_valuesIn vIn
  rw [e_canMend hO hP hE hC hc hS]
  dsimp only [Option.bind_some]
  cases hm : cmd P c S with
  | false => rfl
  | true =>
    rw [if_neg (by decide), if_pos rfl]
    by_cases h : S.testBit f = true
    · rw [if_neg (fun q => by rw [(nI_bitg (by omega)).mp q] at h; cases h), if_pos h, e_editsLeft hO hP hE hc]
      dsimp only [Option.bind_some]
      rw [e_curingValues hO hP hE hC (Nat.lt_of_lt_of_le (lft_lt P c S (pn P)) (p2m hO)) hS hf]
      rfl
    · rw [if_pos ((nI_bitg (by omega)).mpr (by simpa using h)), if_neg h, e_answerAt hc.1 (by omega)]
      dsimp only [Option.bind_some]
      have hne : rv c f ≠ 0 := fun h0 => by
        unfold cmd at hm
        rw [Bool.and_eq_true, mSb_iff h5] at hm
        exact h (hm.1 f hf h0)
      have hle := hc.2.1 f hf
      have e : nJ (rv c f) = nI (rv c f - 1) := by
        obtain ⟨k, hk⟩ := Nat.exists_eq_succ_of_ne_zero hne
        rw [hk]
        exact nJ_s k
      rw [e, nI_shl (by omega)]
theorem e_leastSet (hO : pOK P) (hP : cP P g) (hE : cE P g) (hC : cC P g) (hL : cL P g) {c : Nat} (hc : rOK P c) : nX5_leastSet (nI c) g = some (sI (ls P c)) := by
  obtain ⟨o, o1, o2, o3⟩ := hL
  have h7 := p2n hO
  have h1p := Nat.one_le_two_pow (n := pn P)
  have step : ∀ i, i < 2 ^ pn P → cmd P c (o i) = false → wX5_leastSet_2 (nI c) g (nI i) = some (.inl (nI (i + 1))) := by
    intro i hi hm
    dsimp only [wX5_leastSet_2]
    rw [e_allFields hO hP]
    dsimp only [Option.bind_some]
    rw [if_neg (by rw [nN_lt (by omega) (by omega)]; omega), zchk_t (zin_nI (by omega) (by omega)), nI_cl (by omega), (o1 i hi).1, e_canMend hO hP hE hC hc (o1 i hi).2, hm]
    dsimp only [Option.bind_some]
    rw [if_pos (show (if false = true then (1 : Int32) else 0) = 0 from rfl), nI_s]
  unfold nX5_leastSet
  rcases ls_spec hO c with ⟨h1, h2⟩ | ⟨h1, h2, h3⟩
  · rw [h1]
    refine wh_seq (fun i => nI i) (2 ^ pn P) (fun i hi => step i hi (h2 _ (o1 i hi).2)) ?_
    dsimp only [wX5_leastSet_2]
    rw [e_allFields hO hP]
    dsimp only [Option.bind_some]
    rw [if_pos (by rw [nN_lt (by omega) (by omega)]; omega)]
    rfl
  · obtain ⟨k, hk, hok⟩ := o2 (ls P c) h1
    refine wh_seq (fun i => nI i) k (fun i hi => step i (by omega) ?_) ?_
    · cases hm : cmd P c (o i) with
      | false => rfl
      | true =>
        have h4 := h3 (o i) (o1 i (by omega)).2 hm
        have h5 := o3 i k hi hk
        rw [hok] at h5
        omega
    · dsimp only [wX5_leastSet_2]
      rw [e_allFields hO hP]
      dsimp only [Option.bind_some]
      rw [if_neg (by rw [nN_lt (by omega) (by omega)]; omega), zchk_t (zin_nI (by omega) (by omega)), nI_cl (by omega), (o1 k hk).1, hok, e_canMend hO hP hE hC hc h1, h2]
      dsimp only [Option.bind_some]
      unfold sI
      rw [if_neg (show ¬ (if true = true then (1 : Int32) else 0) = 0 by decide), zchk_t (zin_nI (by omega) (by omega)), if_neg (by omega)]
      rfl
theorem e_leastWeight (hO : pOK P) (hP : cP P g) (hE : cE P g) (hC : cC P g) (hL : cL P g) {c : Nat} (hc : rOK P c) : nX5_leastWeight (nI c) g = some (wI (lw P c)) := by
  have h7 := p2n hO
  unfold nX5_leastWeight
  rw [e_leastSet hO hP hE hC hL hc]
  dsimp only [Option.bind_some]
  unfold sI wI lw
  rcases ls_spec hO c with ⟨h1, h2⟩ | ⟨h1, h2, h3⟩
  · rw [h1]
    rfl
  · have hw := wSum_le hO (ls P c) (pn P) (Nat.le_refl _)
    have h5 := hO.1
    have hne : ¬ ls P c = 99 := by omega
    have e1 : ¬ nI (ls P c) = -1 := fun q => by
      rw [nI_m1, nN_eqm (by omega)] at q
      exact q
    have e2 : ¬ wSum P (ls P c) (pn P) = 999 := by omega
    rw [if_neg hne, if_neg hne, if_neg e1, if_neg e2, e_weightOf hO hP]
    rfl
end Le
