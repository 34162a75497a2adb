
/-! ===== the reference: which edits each form fails ===== -/
/-- all below n -/
def alB (p : Nat → Bool) (n : Nat) : Bool := foN (fun f b => b && p f) n true
theorem alB_s (p : Nat → Bool) (n : Nat) : alB p (n + 1) = (alB p n && p n) := rfl
theorem alB_iff (p : Nat → Bool) : ∀ n, alB p n = true ↔ ∀ i, i < n → p i = true := by
  intro n
  induction n with
  | zero => exact ⟨fun _ i hi => absurd hi (Nat.not_lt_zero i), fun _ => rfl⟩
  | succ n ih =>
    rw [alB_s, Bool.and_eq_true, ih]
    constructor
    · rintro ⟨h1, h2⟩ i hi
      by_cases q : i = n
      · rw [q]; exact h2
      · exact h1 i (by omega)
    · intro h
      exact ⟨fun i hi => h i (by omega), h n (by omega)⟩
section Mp
variable {P : zPl} {g : zS}
def bI (b : Bool) : Int32 := if b then 1 else 0
theorem bI_0 (b : Bool) : bI b = 0 ↔ b = false := by cases b <;> decide
/-- a number is a form -/
def isF5 (P : zPl) (x : Nat) : Bool := alB (fun f => decide (vo x f < mq P f)) 5
/-- the edits that a number fails, none where it is no form -/
def fsM (P : zPl) (x : Nat) : Nat := if isF5 P x then fs P (vo x) else 0
def mF (P : zPl) (g : zS) : Prop := ∀ x, x < 3125 → g.1 57 x = bI (isF5 P x) ∧ g.1 56 x = nI (fsM P x)
def kLy (c : Nat) : Bool := c == 56 || c == 57
theorem mP_fr {K : Nat → Bool} {h : zS} (hK : K 42 = false ∧ K 51 = false ∧ K 52 = false ∧ K 53 = false ∧ K 54 = false ∧ K 58 = false) (a : fr K g h) (p : mP P g) : mP P h := by
  unfold mP at p ⊢
  rw [(a.1 42 hK.1).1, (a.1 51 hK.2.1).1, (a.1 52 hK.2.2.1).1, (a.1 53 hK.2.2.2.1).1, (a.1 54 hK.2.2.2.2.1).1, (a.1 58 hK.2.2.2.2.2).1]
  exact p
/-- an edit that a form fails -/
def eF (P : zPl) (x e : Nat) : Bool := alB (fun f => (pE P e f).testBit (vo x f)) (pn P)
theorem fs_eF (P : zPl) (x : Nat) : fs P (vo x) = bS (eF P x) (pm P) := bS_congr _ (fun e _ => by
  rw [Bool.eq_iff_iff, decide_eq_true_eq]
  exact (alB_iff _ _).symm)
/-- only the places x of two cells change -/
def lyX (x : Nat) (g h : zS) : Prop := fr kLy g h ∧ ∀ y, y ≠ x → h.1 57 y = g.1 57 y ∧ h.1 56 y = g.1 56 y
theorem lyX_tr {x : Nat} {g h k : zS} (a : lyX x g h) (b : lyX x h k) : lyX x g k := ⟨fr_tr a.1 b.1, fun y hy => ⟨(b.2 y hy).1.trans (a.2 y hy).1, (b.2 y hy).2.trans (a.2 y hy).2⟩⟩
theorem lyX_57 (x : Nat) (g : zS) (v : Int32) : lyX x g (zi g 57 x v) := ⟨fr_zi rfl _ _ _, fun y hy => ⟨zi_else _ _ (fun e => hy e.2), by rw [zi_cell _ _ (by decide)]⟩⟩
theorem lyX_56 (x : Nat) (g : zS) (v : Int32) : lyX x g (zi g 56 x v) := ⟨fr_zi rfl _ _ _, fun y hy => ⟨by rw [zi_cell _ _ (by decide)], zi_else _ _ (fun e => hy e.2)⟩⟩
end Mp
