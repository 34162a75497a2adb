
/-! ===== kinds: usual values, shares, keys ===== -/
section Kj
variable {P : zPl} {g : zS} {N : Nat} {r : Nat → Nat} {ky : Nat → Int32}
/-- the first below n, else n -/
def fstB (p : Nat → Bool) (n : Nat) : Nat := foN (fun i a => if a == i && !p i then i + 1 else a) n 0
theorem fstB_s (p : Nat → Bool) (n : Nat) : fstB p (n + 1) = if fstB p n == n && !p n then n + 1 else fstB p n := rfl
theorem fstB_spec (p : Nat → Bool) : ∀ n, fstB p n ≤ n ∧ (∀ i, i < fstB p n → p i = false) ∧ (fstB p n < n → p (fstB p n) = true) := by
  intro n
  induction n with
  | zero => exact ⟨Nat.le_refl _, fun i hi => absurd hi (Nat.not_lt_zero i), fun h => absurd h (Nat.lt_irrefl _)⟩
  | succ n ih =>
    obtain ⟨h1, h2, h3⟩ := ih
    rw [fstB_s]
    by_cases c : fstB p n = n
    · rw [c, beq_self_eq_true, Bool.true_and]
      rw [c] at h2
      cases hp : p n with
      | true => rw [if_neg (by decide)]; exact ⟨by omega, h2, fun _ => hp⟩
      | false =>
        rw [if_pos (by decide)]
        refine ⟨Nat.le_refl _, fun i hi => ?_, fun h => absurd h (Nat.lt_irrefl _)⟩
        by_cases q : i = n
        · rw [q]; exact hp
        · exact h2 i (by omega)
    · rw [if_neg (by simp [c])]
      exact ⟨by omega, h2, fun _ => h3 (by omega)⟩
theorem fstB_eq {p : Nat → Bool} {n k : Nat} (hk : k < n) (h1 : p k = true) (h2 : ∀ i, i < k → p i = false) : fstB p n = k := by
  obtain ⟨a, b, c⟩ := fstB_spec p n
  by_cases q : fstB p n < k
  · rw [h2 _ q] at c; exact absurd (c (by omega)) (by decide)
  · by_cases q2 : k < fstB p n
    · rw [b k q2] at h1; cases h1
    · omega
theorem fstB_n {p : Nat → Bool} {n : Nat} (h : ∀ i, i < n → p i = false) : fstB p n = n := by
  obtain ⟨a, b, c⟩ := fstB_spec p n
  by_cases q : fstB p n < n
  · rw [h _ q] at c; exact absurd (c q) (by decide)
  · omega
/-- a loop that goes on to the first -/
theorem wh_fst {S R : Type} {step : S → Option (S ⊕ R)} (p : Nat → Bool) (s : Nat → S) (N : Nat) (A : Nat → R) (B : R) (h1 : ∀ i, i < N → p i = false → step (s i) = some (.inl (s (i + 1)))) (h2 : ∀ i, i < N → p i = true → step (s i) = some (.inr (A i))) (h3 : step (s N) = some (.inr B)) : wh step (s 0) = some (if fstB p N < N then A (fstB p N) else B) := by
  obtain ⟨a, b, c⟩ := fstB_spec p N
  by_cases q : fstB p N < N
  · rw [if_pos q]
    exact wh_seq s (fstB p N) (fun i hi => h1 i (by omega) (b i hi)) (h2 _ q (c q))
  · rw [if_neg q]
    have e : fstB p N = N := by omega
    rw [e] at b
    exact wh_seq s N (fun i hi => h1 i hi (b i hi)) h3
/-- the value that the most rows have -/
def usl (P : zPl) (N : Nat) (r : Nat → Nat) (G f n : Nat) : Nat × Nat := foN (fun v s => if cnt (fun k => hav P G f v (r k)) N ≤ s.2 then s else (v + 1, cnt (fun k => hav P G f v (r k)) N)) n (0, 0)
theorem usl_s (P : zPl) (N : Nat) (r : Nat → Nat) (G f n : Nat) : usl P N r G f (n + 1) = if cnt (fun k => hav P G f n (r k)) N ≤ (usl P N r G f n).2 then usl P N r G f n else (n + 1, cnt (fun k => hav P G f n (r k)) N) := rfl
theorem usl_le (P : zPl) (N : Nat) (r : Nat → Nat) (G f : Nat) : ∀ n, (usl P N r G f n).1 ≤ n ∧ (usl P N r G f n).2 ≤ N := by
  intro n
  induction n with
  | zero => exact ⟨Nat.le_refl _, Nat.zero_le _⟩
  | succ n ih =>
    rw [usl_s]
    split
    · exact ⟨by omega, ih.2⟩
    · exact ⟨Nat.le_refl _, cnt_le _ _⟩
/-- the likeliest of some values -/
def lkl (P : zPl) (N : Nat) (r : Nat → Nat) (f V n : Nat) : Nat × Nat := foN (fun v s => if V.testBit v && decide (s.2 < shr P N r f v + 1) then (v + 1, shr P N r f v + 1) else s) n (0, 0)
theorem lkl_s (P : zPl) (N : Nat) (r : Nat → Nat) (f V n : Nat) : lkl P N r f V (n + 1) = if V.testBit n && decide ((lkl P N r f V n).2 < shr P N r f n + 1) then (n + 1, shr P N r f n + 1) else lkl P N r f V n := rfl
theorem lkl_le (P : zPl) (N : Nat) (r : Nat → Nat) (f V : Nat) : ∀ n, (lkl P N r f V n).1 ≤ n ∧ (lkl P N r f V n).2 ≤ 101 := by
  intro n
  induction n with
  | zero => exact ⟨Nat.le_refl _, Nat.zero_le _⟩
  | succ n ih =>
    have := shr_le P N r f n
    rw [lkl_s]
    split
    · exact ⟨Nat.le_refl _, by dsimp only; omega⟩
    · exact ⟨by omega, ih.2⟩
theorem nJ_le {a b : Nat} (ha : a < 2147483648) (hb : b < 2147483648) : nJ a ≤ nJ b ↔ a ≤ b := by
  cases a with
  | zero =>
    refine ⟨fun _ => Nat.zero_le b, fun _ => ?_⟩
    rw [nJ_0]
    cases b with
    | zero => exact Int32.le_refl _
    | succ b =>
      rw [nJ_s]
      rw [Int32.le_iff_toInt_le, nI_int (by omega)]
      have : (-1 : Int32).toInt = -1 := by decide
      omega
  | succ a =>
    rw [nJ_s]
    cases b with
    | zero =>
      rw [nJ_0, Int32.le_iff_toInt_le, nI_int (by omega)]
      have : (-1 : Int32).toInt = -1 := by decide
      omega
    | succ b =>
      rw [nJ_s, nN_le (by omega) (by omega)]
      omega
/-- keys of rows -/
def kR (N : Nat) (ky : Nat → Int32) (g : zS) : Prop := g.1 31 1 = nI N ∧ N ≤ 40 ∧ ∀ k, k < N → g.1 38 k = ky k
def fwk (N : Nat) (ky : Nat → Int32) (K : Int32) : Nat := fstB (fun i => decide (ky i = K)) N
/-- a row is the first with its key -/
def isF (N : Nat) (ky : Nat → Int32) (i : Nat) : Bool := fwk N ky (ky i) == i
theorem isF_key (hN : N ≤ 40) {i : Nat} (hi : i < N) : ((if fwk N ky (ky i) < N then nI (fwk N ky (ky i)) else (-1 : Int32)) = nI i) ↔ isF N ky i = true := by
  unfold isF
  have h := (fstB_spec (fun j => decide (ky j = ky i)) N).1
  have hlt : fwk N ky (ky i) < N := by
    by_cases q : fwk N ky (ky i) < N
    · exact q
    · exfalso
      have e : fstB (fun j => decide (ky j = ky i)) N = N := by unfold fwk at q; omega
      have := (fstB_spec (fun j => decide (ky j = ky i)) N).2.1 i (by omega)
      simp at this
  rw [if_pos hlt, nN_eq (by omega) (by omega), beq_iff_eq]
end Kj
