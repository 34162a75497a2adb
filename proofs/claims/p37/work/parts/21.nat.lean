
/-! ===== numbers as naturals; loops ===== -/
theorem nN_add (a b : Nat) : nI a + nI b = nI (a + b) := (Int32.ofNat_add a b).symm
theorem nI_mul (a b : Nat) : nI a * nI b = nI (a * b) := (Int32.ofNat_mul a b).symm
theorem nN_lt {a b : Nat} (ha : a < 2147483648) (hb : b < 2147483648) : nI a < nI b ↔ a < b := by
  rw [Int32.lt_iff_toInt_lt, nI_int ha, nI_int hb]
  omega
theorem nN_le {a b : Nat} (ha : a < 2147483648) (hb : b < 2147483648) : nI a ≤ nI b ↔ a ≤ b := by
  rw [Int32.le_iff_toInt_le, nI_int ha, nI_int hb]
  omega
theorem nN_eq {a b : Nat} (ha : a < 2147483648) (hb : b < 2147483648) : nI a = nI b ↔ a = b := ⟨fun h => by
  have h2 := congrArg Int32.toInt h
  rw [nI_int ha, nI_int hb] at h2
  omega, fun h => by rw [h]⟩
theorem nI_sub {a b : Nat} (h : b ≤ a) : nI a - nI b = nI (a - b) := by
  have e : nI a = nI (a - b) + nI b := by
    rw [nN_add]
    congr 1
    omega
  rw [e, Int32.add_sub_cancel]
theorem nI_or (a b : Nat) : nI a ||| nI b = nI (a ||| b) := Int32.toBitVec.inj (by
  show BitVec.ofNat 32 a ||| BitVec.ofNat 32 b = BitVec.ofNat 32 (a ||| b)
  rw [BitVec.ofNat_or])
theorem nI_and (a b : Nat) : nI a &&& nI b = nI (a &&& b) := Int32.toBitVec.inj (by
  show BitVec.ofNat 32 a &&& BitVec.ofNat 32 b = BitVec.ofNat 32 (a &&& b)
  rw [BitVec.ofNat_and])
theorem nI_shl {k : Nat} (hk : k < 31) : (1 : Int32) <<< (nI k &&& 31) = nI (2 ^ k) := by
  have h : ∀ k, k < 31 → (1 : Int32) <<< (nI k &&& 31) = nI (2 ^ k) := by decide
  exact h k hk
theorem nI_smod {k : Nat} (hk : k < 32) : ((nI k &&& 31).toBitVec.smod 32) = BitVec.ofNat 32 k := by
  have h : ∀ k, k < 32 → ((nI k &&& 31).toBitVec.smod 32) = BitVec.ofNat 32 k := by decide
  exact h k hk
theorem nI_shr {s k : Nat} (hs : s < 2147483648) (hk : k < 32) : nI s >>> (nI k &&& 31) = nI (s >>> k) := Int32.toBitVec.inj (by
  rw [Int32.toBitVec_shiftRight]
  show (nI s).toBitVec.sshiftRight' ((nI k &&& 31).toBitVec.smod 32) = BitVec.ofNat 32 (s >>> k)
  rw [nI_smod hk, BitVec.sshiftRight'_ofNat_eq_sshiftRight]
  show (BitVec.ofNat 32 s).sshiftRight (k % 2 ^ 32) = _
  rw [Nat.mod_eq_of_lt (by omega), BitVec.sshiftRight_eq_of_msb_false (by rw [BitVec.msb_eq_decide, BitVec.toNat_ofNat, decide_eq_false_iff_not, Nat.mod_eq_of_lt (by omega)]; omega)]
  apply BitVec.eq_of_toNat_eq
  rw [BitVec.toNat_ushiftRight, BitVec.toNat_ofNat, BitVec.toNat_ofNat, Nat.mod_eq_of_lt (by omega), Nat.mod_eq_of_lt]
  have := Nat.shiftRight_le s k
  omega)
theorem nt_and1 (s k : Nat) : (s >>> k) &&& 1 = if s.testBit k then 1 else 0 := by
  unfold Nat.testBit
  rw [Nat.and_comm, Nat.one_and_eq_mod_two]
  rcases Nat.mod_two_eq_zero_or_one (s >>> k) with h | h <;> rw [h] <;> rfl
theorem nI_bit {s k : Nat} (hs : s < 2147483648) (hk : k < 32) : ((nI s >>> (nI k &&& 31)) &&& 1) = nI (if s.testBit k then 1 else 0) := by
  rw [nI_shr hs hk]
  show nI (s >>> k) &&& nI 1 = _
  rw [nI_and, nt_and1]
theorem nI_bit0 {s k : Nat} (hs : s < 2147483648) (hk : k < 32) : ((nI s >>> (nI k &&& 31)) &&& 1 = 0) ↔ s.testBit k = false := by
  rw [nI_bit hs hk]
  cases s.testBit k
  · exact ⟨fun _ => rfl, fun _ => rfl⟩
  · exact ⟨fun h => absurd h (by decide), fun h => by cases h⟩
theorem nN_0 : nI 0 = 0 := rfl
theorem nN_1 : nI 1 = 1 := rfl
theorem nI_s (a : Nat) : nI a + (1 : Int32) = nI (a + 1) := nN_add a 1
theorem zin_nI {i n : Nat} (hi : i < n) (hn : n ≤ 2147483648) : zin (nI i) n = true := by
  unfold zin
  rw [decide_eq_true_eq, nI_cl (by omega)]
  rintro (h | h)
  · exact nI_nn (by omega) h
  · omega
theorem nI_0le {a : Nat} (h : a < 2147483648) : (0 : Int32) ≤ nI a := Int32.not_lt.mp (nI_nn h)
/-- a loop as a row of states -/
theorem wh_seq {S R : Type} {step : S → Option (S ⊕ R)} (s : Nat → S) {r : R} : ∀ (n : Nat), (∀ i, i < n → step (s i) = some (.inl (s (i + 1)))) → step (s n) = some (.inr r) → wh step (s 0) = some r := by
  have go : ∀ (k n : Nat), k ≤ n → (∀ i, i < n → step (s i) = some (.inl (s (i + 1)))) → step (s n) = some (.inr r) → wh step (s (n - k)) = some r := by
    intro k
    induction k with
    | zero => intro n _ _ ho; exact wh_out ho
    | succ k ih =>
      intro n hk hi ho
      have h1 := hi (n - (k + 1)) (by omega)
      rw [wh_in h1]
      have e : n - (k + 1) + 1 = n - k := by omega
      rw [e]
      exact ih n (by omega) hi ho
  intro n hi ho
  have h := go n n (Nat.le_refl n) hi ho
  rw [Nat.sub_self] at h
  exact h
/-- a loop that keeps a promise and comes to an end -/
theorem wh_post {S R : Type} {step : S → Option (S ⊕ R)} (I : S → Prop) (μ : S → Nat) (Q : R → Prop) (hs : ∀ s, I s → ∃ o, step s = some o ∧ (match o with | .inl s' => I s' ∧ μ s' < μ s | .inr r => Q r)) : ∀ s, I s → ∃ r, wh step s = some r ∧ Q r := by
  have go : ∀ (k : Nat) (s : S), μ s < k → I s → ∃ r, wh step s = some r ∧ Q r := by
    intro k
    induction k with
    | zero => intro s h; omega
    | succ k ih =>
      intro s hk hI
      obtain ⟨o, h1, h2⟩ := hs s hI
      cases o with
      | inl s' =>
        rw [wh_in h1]
        exact ih s' (by have := h2.2; omega) h2.1
      | inr r => exact ⟨r, wh_out h1, h2⟩
  intro s hI
  exact go (μ s + 1) s (Nat.lt_succ_self _) hI
/-- from 0 to n - 1 -/
def foN {A : Type} (f : Nat → A → A) : Nat → A → A
  | 0, a => a
  | n + 1, a => f n (foN f n a)
theorem foN_inv {A : Type} {f : Nat → A → A} {P : Nat → A → Prop} {a : A} (h0 : P 0 a) : ∀ (n : Nat), (∀ i, i < n → ∀ a, P i a → P (i + 1) (f i a)) → P n (foN f n a) := by
  intro n
  induction n with
  | zero => intro _; exact h0
  | succ n ih => intro h; exact h n (Nat.lt_succ_self n) _ (ih fun i hi => h i (Nat.lt_succ_of_lt hi))
theorem foN_congr {A : Type} {f g : Nat → A → A} {a : A} : ∀ (n : Nat), (∀ i, i < n → f i = g i) → foN f n a = foN g n a := by
  intro n
  induction n with
  | zero => intro _; rfl
  | succ n ih =>
    intro h
    show f n (foN f n a) = g n (foN g n a)
    rw [h n (Nat.lt_succ_self n), ih fun i hi => h i (Nat.lt_succ_of_lt hi)]
