
/-! ===== patterns, rows alike, urgency ===== -/
section Kk
variable {P : zPl} {g : zS} {N : Nat} {r : Nat → Nat} {ky : Nat → Int32}
def k38 (c : Nat) : Bool := c == 38
/-- a row's pattern in one number -/
def pk (P : zPl) (c : Nat) : Nat := lft P c 0 (pn P) * 64 + rmis c (pn P)
theorem zcpo_t {a b n n0 n1 : Nat} (h1 : a + n ≤ n0) (h2 : b + n ≤ n1) (h3 : n0 < 2147483648) (h4 : n1 < 2147483648) : zcpo (nI a) (nI b) (nI n) n0 n1 = true := by
  unfold zcpo
  rw [nI_cl (by omega), nI_cl (by omega), nI_cl (by omega)]
  exact decide_eq_true ⟨nI_nn (by omega), nI_nn (by omega), nI_nn (by omega), h1, h2⟩
theorem zcpyA (g : zS) {i j a b n k : Nat} (ha : a < 2147483648) (hb : b < 2147483648) (hn : n < 2147483648) : (zcpy g i j (nI a) (nI b) (nI n)).1 j k = if b ≤ k ∧ k < b + n then g.1 i (a + (k - b)) else g.1 j k := by
  unfold zcpy
  rw [nI_cl ha, nI_cl hb, nI_cl hn]
  show (if j = j then va_cpy (g.1 i) (g.1 j) a b n else g.1 j) k = _
  rw [if_pos rfl]
  rfl
theorem fwk_lt {i : Nat} (hi : i < N) : fwk N ky (ky i) < N := by
  obtain ⟨a, b, c⟩ := fstB_spec (fun j => decide (ky j = ky i)) N
  by_cases q : fwk N ky (ky i) < N
  · exact q
  · exfalso
    have e : fstB (fun j => decide (ky j = ky i)) N = N := by unfold fwk at q; omega
    have := b i (by omega)
    simp at this
/-- how urgent a row is; 0: it passes -/
def urg (P : zPl) (c : Nat) : Nat := if rgt P c then 0 else pcn (lft P c 0 (pn P)) * 64 + (if lw P c = 999 then 63 else lw P c) + 1
theorem lw_le (hO : pOK P) (c : Nat) : lw P c ≤ 45 ∨ lw P c = 999 := by
  have h5 := hO.1
  have := wSum_le hO (ls P c) (pn P) (Nat.le_refl _)
  unfold lw
  split
  · exact Or.inr rfl
  · exact Or.inl (by omega)
theorem urg_lt (hO : pOK P) (c : Nat) : urg P c < 500 := by
  have h1 := pcn_le (lft P c 0 (pn P))
  have h2 := lw_le hO c
  unfold urg
  split
  · omega
  · split <;> omega
theorem nJ_lt {a b : Nat} (ha : a < 2147483648) (hb : b < 2147483648) : nJ a < nJ b ↔ a < b := by
  rw [← Int32.not_le, nJ_le hb ha]
  omega
/-- another row is ahead -/
def rkB (u : Nat → Nat) (i j : Nat) : Bool := decide (u i < u j) || (decide (j < i) && u j == u i)
/-- the row that is the k-th most urgent -/
def urB (P : zPl) (N : Nat) (r : Nat → Nat) (K : Int32) (i : Nat) : Bool := urg P (r i) != 0 && decide (nI (cnt (rkB (fun k => urg P (r k)) i) N) = K)
end Kk
