
/-! ===== read: one line, class and reference ===== -/
section Ln
variable {g h k : zS} {tn : Nat} {tb : Nat → Nat} {s p t : Nat} {P : zPl} {N : Nat} {r : Nat → Nat}
def wCl (c k : Nat) : Prop := wCr c k ∨ c = 15 ∨ (c = 19 ∧ k = 4)
/-- what a line changes in the class -/
def fC (g h : zS) : Prop := mw wCl g h ∧ (bt15 g → bt15 h)
theorem fC_rfl (g : zS) : fC g g := ⟨mw_rfl _, id⟩
theorem fC_tr (a : fC g h) (b : fC h k) : fC g k := ⟨mw_tr a.1 b.1, fun q => b.2 (a.2 q)⟩
theorem fC_Cr (a : mw wCr g h) : fC g h := ⟨mw_le (fun c k q => Or.inl q) a, bt15_mw wCr_15 a⟩
theorem fC_Cs (a : mw wCs g h ∧ (bt15 g → bt15 h)) : fC g h := ⟨mw_le (fun c k q => q.elim Or.inl (fun e => Or.inr (Or.inl e))) a.1, a.2⟩
theorem fC_4 (a : mw (fun c k => c = 19 ∧ k = 4) g h) : fC g h := ⟨mw_le (fun c k q => Or.inr (Or.inr q)) a, bt15_mw (fun c k q => by omega) a⟩
/-- the class's mark: a line of another kind has come -/
def flg (P : zPl) (N : Nat) (g : zS) : Prop := g.1 19 4 = 0 ↔ (pm P = 0 ∧ N = 0 ∧ pg P = 9)
theorem gI_9 {x : Nat} (h : x ≤ 9) : gI x = -1 ↔ x = 9 := by
  unfold gI
  by_cases c : x = 9
  · rw [if_pos c]; exact ⟨fun _ => c, fun _ => rfl⟩
  · rw [if_neg c]
    exact ⟨fun e => by rw [nI_m1, nN_eqm (by omega)] at e; exact e.elim, fun e => absurd e c⟩
theorem pg_le (hO : pOK P) : pg P ≤ 9 := by
  have h5 := hO.1
  rcases hO.2.2.2.2.2.1 with q | q <;> omega
theorem flt_ne (ht : t ≤ 400) (h : g.1 42 5 = nI t) : ¬ g.1 42 5 = -1 := fun e => by
  rw [h, nI_m1, nN_eqm (by omega)] at e
  exact e
end Ln
