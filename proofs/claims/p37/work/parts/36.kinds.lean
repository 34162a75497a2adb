
/-! ===== kinds: usual values, shares, keys ===== -/
section Kj
variable {P : zPl} {g : zS} {N : Nat} {r : Nat → Nat} {ky : Nat → Int32}
/-- the first below n, else n -/
def fstB (p : Nat → Bool) (n : Nat) : Nat := foN (fun i a => if a == i && !p i then i + 1 else a) n 0
theorem fstB_s (p : Nat → Bool) (n : Nat) : fstB p (n + 1) = if fstB p n == n && !p n then n + 1 else fstB p n := rfl
theorem fstB_spec (p : Nat → Bool) : ∀ n, fstB p n ≤ n ∧ (∀ i, i < fstB p n → p i = false) ∧ (fstB p n < n → p (fstB p n) = true) := by
  intro n
  induction n with
  | zero => exact ⟨Nat.le_refl _, fun i hi => absurd hi (Nat.not_lt_zero i), fun h => absurd h (Nat.lt_irrefl _)⟩
  | succ n ih =>
    obtain ⟨h1, h2, h3⟩ := ih
    rw [fstB_s]
    by_cases c : fstB p n = n
    · rw [c, beq_self_eq_true, Bool.true_and]
      rw [c] at h2
      cases hp : p n with
      | true => rw [if_neg (by decide)]; exact ⟨by omega, h2, fun _ => hp⟩
      | false =>
        rw [if_pos (by decide)]
        refine ⟨Nat.le_refl _, fun i hi => ?_, fun h => absurd h (Nat.lt_irrefl _)⟩
        by_cases q : i = n
        · rw [q]; exact hp
        · exact h2 i (by omega)
    · rw [if_neg (by simp [c])]
      exact ⟨by omega, h2, fun _ => h3 (by omega)⟩
theorem fstB_eq {p : Nat → Bool} {n k : Nat} (hk : k < n) (h1 : p k = true) (h2 : ∀ i, i < k → p i = false) : fstB p n = k := by
  obtain ⟨a, b, c⟩ := fstB_spec p n
  by_cases q : fstB p n < k
  · rw [h2 _ q] at c; exact absurd (c (by omega)) (by decide)
  · by_cases q2 : k < fstB p n
    · rw [b k q2] at h1; cases h1
    · omega
theorem fstB_n {p : Nat → Bool} {n : Nat} (h : ∀ i, i < n → p i = false) : fstB p n = n := by
  obtain ⟨a, b, c⟩ := fstB_spec p n
  by_cases q : fstB p n < n
  · rw [h _ q] at c; exact absurd (c q) (by decide)
  · omega
/-- a loop that goes on to the first -/
theorem wh_fst {S R : Type} {step : S → Option (S ⊕ R)} (p : Nat → Bool) (s : Nat → S) (N : Nat) (A : Nat → R) (B : R) (h1 : ∀ i, i < N → p i = false → step (s i) = some (.inl (s (i + 1)))) (h2 : ∀ i, i < N → p i = true → step (s i) = some (.inr (A i))) (h3 : step (s N) = some (.inr B)) : wh step (s 0) = some (if fstB p N < N then A (fstB p N) else B) := by
  obtain ⟨a, b, c⟩ := fstB_spec p N
  by_cases q : fstB p N < N
  · rw [if_pos q]
    exact wh_seq s (fstB p N) (fun i hi => h1 i (by omega) (b i hi)) (h2 _ q (c q))
  · rw [if_neg q]
    have e : fstB p N = N := by omega
    rw [e] at b
    exact wh_seq s N (fun i hi => h1 i hi (b i hi)) h3
/-- the value that the most rows have -/
def usl (P : zPl) (N : Nat) (r : Nat → Nat) (G f n : Nat) : Nat × Nat := foN (fun v s => if cnt (fun k => hav P G f v (r k)) N ≤ s.2 then s else (v + 1, cnt (fun k => hav P G f v (r k)) N)) n (0, 0)
theorem usl_s (P : zPl) (N : Nat) (r : Nat → Nat) (G f n : Nat) : usl P N r G f (n + 1) = if cnt (fun k => hav P G f n (r k)) N ≤ (usl P N r G f n).2 then usl P N r G f n else (n + 1, cnt (fun k => hav P G f n (r k)) N) := rfl
theorem usl_le (P : zPl) (N : Nat) (r : Nat → Nat) (G f : Nat) : ∀ n, (usl P N r G f n).1 ≤ n ∧ (usl P N r G f n).2 ≤ N := by
  intro n
  induction n with
  | zero => exact ⟨Nat.le_refl _, Nat.zero_le _⟩
  | succ n ih =>
    rw [usl_s]
    split
    · exact ⟨by omega, ih.2⟩
    · exact ⟨Nat.le_refl _, cnt_le _ _⟩
theorem e_usualIn (hO : pOK P) (hP : cP P g) (hE : cE P g) (hR : rR P N r g) {G f : Nat} (hf : f < pn P) (hG : G < 8) (hp : G ≠ 0 → pg P < pn P) : nX4_usualIn (nJ G) (nI f) g = some (nJ (usl P N r G f (pq P f)).1) := by
  have h5 := hO.1
  have hq := (hO.2.1 f hf).2.1
  have hN := hR.2.1
  unfold nX4_usualIn
  refine wh_seq (fun i => (nJ (usl P N r G f i).1, nI (usl P N r G f i).2, nI i)) (pq P f) (fun i hi => ?_) ?_
  · dsimp only [wX4_usualIn_8]
    have hu := usl_le P N r G f i
    have hc := cnt_le (fun k => hav P G f i (r k)) N
    rw [zchk_t (zin_nI (by omega) (by omega)), nI_cl (by omega), hP.2.1 f hf, if_neg (by rw [nN_le (by omega) (by omega)]; omega), e_countHaving hO hP hE hR hf (by omega) hG hp, usl_s]
    dsimp only [Option.bind_some]
    by_cases c : cnt (fun k => hav P G f i (r k)) N ≤ (usl P N r G f i).2
    · rw [if_pos ((nN_le (by omega) (by omega)).mpr c), if_pos c, nI_s]
    · rw [if_neg (fun q => c ((nN_le (by omega) (by omega)).mp q)), if_neg c, nI_s]
      dsimp only
      rw [nJ_s]
  · dsimp only [wX4_usualIn_8]
    rw [zchk_t (zin_nI (by omega) (by omega)), nI_cl (by omega), hP.2.1 f hf, if_pos (Int32.le_refl _)]
    rfl
/-- the likeliest of some values -/
def lkl (P : zPl) (N : Nat) (r : Nat → Nat) (f V n : Nat) : Nat × Nat := foN (fun v s => if V.testBit v && decide (s.2 < shr P N r f v + 1) then (v + 1, shr P N r f v + 1) else s) n (0, 0)
theorem lkl_s (P : zPl) (N : Nat) (r : Nat → Nat) (f V n : Nat) : lkl P N r f V (n + 1) = if V.testBit n && decide ((lkl P N r f V n).2 < shr P N r f n + 1) then (n + 1, shr P N r f n + 1) else lkl P N r f V n := rfl
theorem lkl_le (P : zPl) (N : Nat) (r : Nat → Nat) (f V : Nat) : ∀ n, (lkl P N r f V n).1 ≤ n ∧ (lkl P N r f V n).2 ≤ 101 := by
  intro n
  induction n with
  | zero => exact ⟨Nat.le_refl _, Nat.zero_le _⟩
  | succ n ih =>
    have := shr_le P N r f n
    rw [lkl_s]
    split
    · exact ⟨Nat.le_refl _, by dsimp only; omega⟩
    · exact ⟨by omega, ih.2⟩
theorem nJ_le {a b : Nat} (ha : a < 2147483648) (hb : b < 2147483648) : nJ a ≤ nJ b ↔ a ≤ b := by
  cases a with
  | zero =>
    refine ⟨fun _ => Nat.zero_le b, fun _ => ?_⟩
    rw [nJ_0]
    cases b with
    | zero => exact Int32.le_refl _
    | succ b =>
      rw [nJ_s]
      rw [Int32.le_iff_toInt_le, nI_int (by omega)]
      have : (-1 : Int32).toInt = -1 := by decide
      omega
  | succ a =>
    rw [nJ_s]
    cases b with
    | zero =>
      rw [nJ_0, Int32.le_iff_toInt_le, nI_int (by omega)]
      have : (-1 : Int32).toInt = -1 := by decide
      omega
    | succ b =>
      rw [nJ_s, nN_le (by omega) (by omega)]
      omega
theorem e_likeliest (hO : pOK P) (hP : cP P g) (hE : cE P g) (hR : rR P N r g) {f V : Nat} (hf : f < pn P) : nX4_likeliest (nI f) (nI V) g = some (nJ (lkl P N r f V (pq P f)).1) := by
  have h5 := hO.1
  have hq := (hO.2.1 f hf).2.1
  unfold nX4_likeliest
  refine wh_seq (fun i => (nJ (lkl P N r f V i).1, nJ (lkl P N r f V i).2, nI i)) (pq P f) (fun i hi => ?_) ?_
  · dsimp only [wX4_likeliest_8]
    have hu := lkl_le P N r f V i
    have hc := shr_le P N r f i
    rw [zchk_t (zin_nI (by omega) (by omega)), nI_cl (by omega), hP.2.1 f hf, if_neg (by rw [nN_le (by omega) (by omega)]; omega), e_shareOf hO hP hE hR hf (by omega), lkl_s]
    dsimp only [Option.bind_some]
    cases hV : V.testBit i with
    | false => rw [if_pos ((nI_bitg (by omega)).mpr hV), Bool.false_and, if_neg (by decide), nI_s]
    | true =>
      rw [if_neg (fun q => by rw [(nI_bitg (by omega)).mp q] at hV; cases hV), Bool.true_and, ← nJ_s (shr P N r f i)]
      by_cases c : (lkl P N r f V i).2 < shr P N r f i + 1
      · rw [if_neg (fun q => absurd ((nJ_le (by omega) (by omega)).mp q) (by omega)), if_pos (decide_eq_true c), nI_s]
        dsimp only
        rw [nJ_s i]
      · rw [if_pos ((nJ_le (by omega) (by omega)).mpr (by omega)), if_neg (by simpa using c), nI_s]
  · dsimp only [wX4_likeliest_8]
    rw [zchk_t (zin_nI (by omega) (by omega)), nI_cl (by omega), hP.2.1 f hf, if_pos (Int32.le_refl _)]
    rfl
theorem e_countChanges (hO : pOK P) (hP : cP P g) (hE : cE P g) (hC : cC P g) (hL : cL P g) (hR : rR P N r g) {f : Nat} (hf : f < pn P) : nX4_countChanges (nI f) g = some (nI (cnt (fun k => ls P (r k) != 99 && (ls P (r k)).testBit f) N)) := by
  have h5 := hO.1
  have h7 := p2n hO
  obtain ⟨r1, r2, r3⟩ := hR
  unfold nX4_countChanges
  refine wh_cnt _ N (fun i a hi => ?_) (fun a => ?_)
  · dsimp only [wX4_countChanges_4]
    have hls := ls_spec hO (r i)
    rw [r1, if_neg (by rw [nN_le (by omega) (by omega)]; omega), zchk_t (zin_nI (by omega) (by omega)), nI_cl (by omega), (r3 i hi).1, e_leastSet hO hP hE hC hL (r3 i hi).2]
    dsimp only [Option.bind_some]
    unfold sI
    by_cases h9 : ls P (r i) = 99
    · rw [if_pos h9, if_pos rfl, h9, nI_s]; rfl
    · have hlt : ls P (r i) < 2 ^ pn P := by rcases hls with q | q; exact absurd q.1 h9; exact q.1
      rw [if_neg h9, if_neg (show ¬ nI (ls P (r i)) = (-1 : Int32) from fun q => by rw [nI_m1, nN_eqm (by omega)] at q; exact q), show (ls P (r i) != 99) = true from by simp [h9], Bool.true_and]
      cases hb : (ls P (r i)).testBit f with
      | false => rw [if_pos ((nI_bitg (by omega)).mpr hb), nI_s]; rfl
      | true => rw [if_neg (fun q => by rw [(nI_bitg (by omega)).mp q] at hb; cases hb), nI_s, nI_s]; rfl
  · dsimp only [wX4_countChanges_4]
    rw [r1, if_pos (Int32.le_refl _)]
    rfl
/-- keys of rows -/
def kR (N : Nat) (ky : Nat → Int32) (g : zS) : Prop := g.1 31 1 = nI N ∧ N ≤ 40 ∧ ∀ k, k < N → g.1 38 k = ky k
def fwk (N : Nat) (ky : Nat → Int32) (K : Int32) : Nat := fstB (fun i => decide (ky i = K)) N
theorem e_firstWithKey (hR : kR N ky g) (K : Int32) : nX4_firstWithKey K g = some (if fwk N ky K < N then nI (fwk N ky K) else -1) := by
  obtain ⟨r1, r2, r3⟩ := hR
  unfold nX4_firstWithKey
  have pre : ∀ i, i < N → ¬ g.1 31 1 ≤ nI i := fun i hi => by rw [r1, nN_le (by omega) (by omega)]; omega
  refine wh_fst (fun i => decide (ky i = K)) (fun i => nI i) N (fun i => nI i) (-1) (fun i hi h => ?_) (fun i hi h => ?_) ?_
  · dsimp only [wX4_firstWithKey_2]
    rw [if_neg (pre i hi), zchk_t (zin_nI (by omega) (by omega)), nI_cl (by omega), r3 i hi, if_neg (of_decide_eq_false h), nI_s]
  · dsimp only [wX4_firstWithKey_2]
    rw [if_neg (pre i hi), zchk_t (zin_nI (by omega) (by omega)), nI_cl (by omega), r3 i hi, if_pos (of_decide_eq_true h)]
    rfl
  · dsimp only [wX4_firstWithKey_2]
    rw [r1, if_pos (Int32.le_refl _)]
    rfl
theorem e_countKey (hR : kR N ky g) (K : Int32) : nX4_countKey K g = some (nI (cnt (fun i => decide (ky i = K)) N)) := by
  obtain ⟨r1, r2, r3⟩ := hR
  unfold nX4_countKey
  refine wh_cnt _ N (fun i a hi => ?_) (fun a => ?_)
  · dsimp only [wX4_countKey_4]
    rw [r1, if_neg (by rw [nN_le (by omega) (by omega)]; omega), zchk_t (zin_nI (by omega) (by omega)), nI_cl (by omega), r3 i hi]
    by_cases q : ky i = K
    · rw [if_pos q, nI_s, nI_s, if_pos (decide_eq_true q)]
    · rw [if_neg q, nI_s, if_neg (by simpa using q)]
  · dsimp only [wX4_countKey_4]
    rw [r1, if_pos (Int32.le_refl _)]
    rfl
/-- a row is the first with its key -/
def isF (N : Nat) (ky : Nat → Int32) (i : Nat) : Bool := fwk N ky (ky i) == i
theorem isF_key (hN : N ≤ 40) {i : Nat} (hi : i < N) : ((if fwk N ky (ky i) < N then nI (fwk N ky (ky i)) else (-1 : Int32)) = nI i) ↔ isF N ky i = true := by
  unfold isF
  have h := (fstB_spec (fun j => decide (ky j = ky i)) N).1
  have hlt : fwk N ky (ky i) < N := by
    by_cases q : fwk N ky (ky i) < N
    · exact q
    · exfalso
      have e : fstB (fun j => decide (ky j = ky i)) N = N := by unfold fwk at q; omega
      have := (fstB_spec (fun j => decide (ky j = ky i)) N).2.1 i (by omega)
      simp at this
  rw [if_pos hlt, nN_eq (by omega) (by omega), beq_iff_eq]
theorem e_countKeys (hR : kR N ky g) : nX4_countKeys g = some (nI (cnt (isF N ky) N)) := by
  have hR' := hR
  obtain ⟨r1, r2, r3⟩ := hR
  unfold nX4_countKeys
  refine wh_cnt _ N (fun i a hi => ?_) (fun a => ?_)
  · dsimp only [wX4_countKeys_4]
    rw [r1, if_neg (by rw [nN_le (by omega) (by omega)]; omega), zchk_t (zin_nI (by omega) (by omega)), nI_cl (by omega), r3 i hi, e_firstWithKey hR']
    dsimp only [Option.bind_some]
    cases q : isF N ky i with
    | true => rw [if_pos ((isF_key r2 hi).mpr q), nI_s, nI_s]; rfl
    | false => rw [if_neg (fun e => by rw [(isF_key r2 hi).mp e] at q; cases q), nI_s]; rfl
  · dsimp only [wX4_countKeys_4]
    rw [r1, if_pos (Int32.le_refl _)]
    rfl
end Kj
