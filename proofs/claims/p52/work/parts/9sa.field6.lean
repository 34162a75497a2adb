
/-! ===== read: a field's line, the reference, the whole of it ===== -/
section Fq
variable {g h k : zS} {tn : Nat} {tb : Nat → Nat} {s p t : Nat} {P : zPl} {N : Nat} {r : Nat → Nat}
/-- as mw, but the longs of cell 44 may change -/
def mwl (W : Nat → Nat → Prop) (g h : zS) : Prop := (∀ c k, ¬ W c k → h.1 c k = g.1 c k) ∧ (∀ c, c ≠ 44 → h.2.1 c = g.2.1 c) ∧ h.2.2 = g.2.2
theorem mwl_mw {W : Nat → Nat → Prop} (a : mw W g h) : mwl W g h := ⟨a.1, fun c _ => by rw [a.2], by rw [a.2]⟩
theorem mwl_tr {W : Nat → Nat → Prop} (a : mwl W g h) (b : mwl W h k) : mwl W g k := ⟨fun c i q => (b.1 c i q).trans (a.1 c i q), fun c hc => (b.2.1 c hc).trans (a.2.1 c hc), b.2.2.trans a.2.2⟩
theorem mwl_zl {W : Nat → Nat → Prop} (g : zS) (n : Nat) (x : Int64) : mwl W g (zl g 44 n x) := ⟨fun _ _ _ => rfl, fun c hc => funext fun k => zl_else _ _ (fun e => hc e.1), rfl⟩
theorem mwl_le {V W : Nat → Nat → Prop} (q : ∀ c k, V c k → W c k) (a : mwl V g h) : mwl W g h := ⟨fun c k hk => a.1 c k (fun e => hk (q c k e)), a.2⟩
theorem bool_nar : vp_nar .boolean (1 : Int32) = 1 ∧ vp_nar .boolean (0 : Int32) = 0 := by decide
end Fq
