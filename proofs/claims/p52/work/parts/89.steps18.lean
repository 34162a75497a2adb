
/-! ===== steps: name ===== -/
section S18
variable {S S' : zSt} {g h k : zS} {P : zPl}
def nL (m : Nat) : Int64 := (nI m).toInt64
theorem nI_toI9 {m : Nat} (h : m < 2147483648) : (nI m).toInt = m := Int32.toInt_ofNat_of_lt h
theorem nL_toInt {m : Nat} (h : m < 2147483648) : (nL m).toInt = m := by
  unfold nL
  rw [Int32.toInt_toInt64, nI_toI9 h]
theorem nL_div {m : Nat} (h : m < 2147483648) : nL m / 32 = nL (m / 32) := by
  apply Int64.toInt.inj
  rw [Int64.toInt_div, nL_toInt h, nL_toInt (by omega), show (32 : Int64).toInt = 32 from rfl, Int.tdiv_eq_ediv_of_nonneg (by omega)]
  rw [show ((m : Int) / 32) = ((m / 32 : Nat) : Int) from rfl]
  exact Int.bmod_eq_of_le (by omega) (by omega)
theorem nL_mod {m : Nat} (h : m < 2147483648) : (nL m - nL m / 32 * 32).toInt32 = nI (m % 32) := by
  have e : nL m - nL m / 32 * 32 = nL (m % 32) := by
    apply Int64.toInt.inj
    have e1 : (nL m / 32 * 32).toInt = ((m / 32 * 32 : Nat) : Int) := by
      rw [nL_div h, Int64.toInt_mul, nL_toInt (by omega), show (32 : Int64).toInt = 32 from rfl]
      have : (m / 32 * 32 : Nat) ≤ m := by omega
      rw [Int.bmod_eq_of_le (by omega) (by omega)]
      omega
    rw [Int64.toInt_sub, e1, nL_toInt h, nL_toInt (by omega)]
    rw [Int.bmod_eq_of_le (by omega) (by omega)]
    omega
  rw [e]
  apply Int32.toInt.inj
  rw [Int64.toInt_toInt32, nL_toInt (by omega), nI_toI9 (by omega)]
  exact Int.bmod_eq_of_le (by omega) (by omega)
theorem nL_le0 {m : Nat} (h : m < 2147483648) : lg_cmp (nL m) 0 ≤ 0 ↔ m = 0 := by
  have h0 : (0 : Int64).toInt = 0 := rfl
  unfold lg_cmp
  by_cases c : m = 0
  · have : nL m = 0 := by
      apply Int64.toInt.inj
      rw [nL_toInt h, h0, c]
      rfl
    rw [this, if_neg (by decide), if_pos rfl]
    exact ⟨fun _ => c, fun _ => by decide⟩
  · have : nL m > 0 := by
      show (0 : Int64) < nL m
      rw [Int64.lt_iff_toInt_lt, nL_toInt h, h0]
      omega
    rw [if_pos this]
    exact ⟨fun q => absurd q (by decide), fun q => absurd q c⟩
theorem nmL_s (l : List Nat) (c : Nat) : nmL (l ++ [c]) = 32 * nmL l + (c - 96) := by
  unfold nmL
  rw [List.foldl_append]
  rfl
theorem nmL_t {l : List Nat} {k : Nat} (hk : k < l.length) : nmL (l.take (k + 1)) = 32 * nmL (l.take k) + (l.getD k 0 - 96) := by
  rw [List.take_add_one, List.getElem?_eq_getElem hk, Option.toList_some, nmL_s, List.getD_eq_getElem?_getD, List.getElem?_eq_getElem hk, Option.getD_some]
theorem nmL_lt {l : List Nat} (hl : ∀ c ∈ l, 97 ≤ c ∧ c ≤ 122) : ∀ k, k ≤ l.length → nmL (l.take k) < 32 ^ k
  | 0, _ => by simp [nmL]
  | k + 1, h => by
    have ih := nmL_lt hl k (by omega)
    have hc := hl (l.getD k 0) (by rw [List.getD_eq_getElem?_getD, List.getElem?_eq_getElem (by omega), Option.getD_some]; exact List.getElem_mem _)
    rw [nmL_t (by omega), Nat.pow_succ]
    omega
theorem nmL_p {l : List Nat} (hl : ∀ c ∈ l, 97 ≤ c ∧ c ≤ 122) {k : Nat} (hk : k < l.length) : nmL (l.take (k + 1)) / 32 = nmL (l.take k) ∧ nmL (l.take (k + 1)) % 32 = l.getD k 0 - 96 ∧ 0 < nmL (l.take (k + 1)) ∧ 97 ≤ l.getD k 0 ∧ l.getD k 0 ≤ 122 := by
  have hc := hl (l.getD k 0) (by rw [List.getD_eq_getElem?_getD, List.getElem?_eq_getElem hk, Option.getD_some]; exact List.getElem_mem _)
  rw [nmL_t hk]
  omega
theorem nmL_31 {l : List Nat} (hl : ∀ c ∈ l, 97 ≤ c ∧ c ≤ 122) (h6 : l.length ≤ 6) {k : Nat} (hk : k ≤ l.length) : nmL (l.take k) < 2147483648 := by
  have h1 := nmL_lt hl k hk
  have h2 : 32 ^ k ≤ 32 ^ 6 := Nat.pow_le_pow_right (by omega) (by omega)
  have h3 : (32 : Nat) ^ 6 = 1073741824 := by decide
  omega
end S18
