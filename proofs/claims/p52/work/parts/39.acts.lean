
/-! ===== acts ===== -/
section Ac
variable {P : zPl} {g : zS} {N K : Nat} {r hN : Nat → Nat} {hr : Nat → Nat → Nat}
/-- what the class keeps of earlier rows -/
def cH (P : zPl) (K : Nat) (hN : Nat → Nat) (hr : Nat → Nat → Nat) (g : zS) : Prop := g.1 31 2 = nI K ∧ K ≤ 16 ∧ ∀ p, p < K → hN p ≤ 40 ∧ g.1 33 (p * 41) = nI (hN p) ∧ ∀ i, i < hN p → g.1 33 (p * 41 + 1 + i) = nI (hr p i) ∧ rOK P (hr p i)
theorem cH_fr {L : Nat → Bool} {h : zS} (hK : L 31 = false ∧ L 33 = false) (a : fr L g h) (p : cH P K hN hr g) : cH P K hN hr h := by
  unfold cH at p ⊢
  rw [(a.1 31 hK.1).1, (a.1 33 hK.2).1]
  exact p
theorem zcpy_cell (g : zS) {i j d : Nat} (a b n : Int32) (h : d ≠ j) : (zcpy g i j a b n).1 d = g.1 d := by
  unfold zcpy
  exact if_neg h
def kRw (c : Nat) : Bool := decide (31 ≤ c) && decide (c ≤ 33)
/-- what is kept behind an act -/
def rmK (K : Nat) : Nat := if K = 16 then 16 else K + 1
def rmS {A : Type} (K : Nat) (h : Nat → A) (n : A) (p : Nat) : A := if p + 1 = rmK K then n else if K = 16 then h (p + 1) else h p
theorem cH_congr {hN' : Nat → Nat} {hr' : Nat → Nat → Nat} (h1 : ∀ p, p < K → hN p = hN' p) (h2 : ∀ p, p < K → hr p = hr' p) (h : cH P K hN hr g) : cH P K hN' hr' g := ⟨h.1, h.2.1, fun p hp => by rw [← h1 p hp, ← h2 p hp]; exact h.2.2 p hp⟩
theorem e_codeOf (hR : rR P N r g) {i : Nat} (hi : i < N) : nX8_codeOf (nI i) g = some (nI (r i)) := by
  obtain ⟨r1, r2, r3⟩ := hR
  unfold nX8_codeOf
  rw [if_neg (nI_nn (by omega)), r1, if_pos ((nN_lt (by omega) (by omega)).mpr hi), zchk_t (zin_nI (by omega) (by omega)), nI_cl (by omega), (r3 i hi).1]
end Ac
