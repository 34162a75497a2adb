
/-! ===== steps: copy, tell; what a mending changes ===== -/
section S13
variable {S S' : zSt} {g h k : zS} {P : zPl} {N K : Nat} {r : Nat → Nat} {hN : Nat → Nat} {hr : Nat → Nat → Nat}
/-- the memory after an act -/
def Hm (H : Nat × (Nat → Nat) × Nat × (Nat → Nat) × (Nat → Nat → Nat)) (N' : Nat) (r' : Nat → Nat) : Nat × (Nat → Nat) × Nat × (Nat → Nat) × (Nat → Nat → Nat) := (N', r', rmK H.2.2.1, rmS H.2.2.1 H.2.2.2.1 H.1, rmS H.2.2.1 H.2.2.2.2 H.2.1)
theorem cRw_row {H : Nat × (Nat → Nat) × Nat × (Nat → Nat) × (Nat → Nat → Nat)} (hR : rR P H.1 H.2.1 g) (hH : cH P (rmK H.2.2.1) (rmS H.2.2.1 H.2.2.2.1 H.1) (rmS H.2.2.1 H.2.2.2.2 H.2.1) g) (hz : pn P = 0 → H.1 = 0 ∧ ∀ p, p < rmK H.2.2.1 → rmS H.2.2.1 H.2.2.2.1 H.1 p = 0) {i c : Nat} (hi : i < H.1) (hc : rOK P c) : cRw P (Hm H H.1 (upA H.2.1 i c)) (zi g 32 i (nI c)) := by
  refine ⟨⟨by rw [zi_else _ _ (by omega)]; exact hR.1, hR.2.1, fun j hj => ?_⟩, ?_, hz⟩
  · show (zi g 32 i (nI c)).1 32 j = nI (if j = i then c else H.2.1 j) ∧ rOK P (if j = i then c else H.2.1 j)
    by_cases q : j = i
    · rw [if_pos q, q, zi_at]; exact ⟨rfl, hc⟩
    · rw [if_neg q, zi_else _ _ (by omega)]; exact hR.2.2 j hj
  · show cH P _ _ _ _
    unfold cH
    rw [zi_cell _ _ (show 31 ≠ 32 by omega), zi_cell _ _ (show 33 ≠ 32 by omega)]
    exact hH
theorem mH_55 {i : Nat} {v : Int32} (p : mH P K hN hr g) : mH P K hN hr (zi g 55 i v) := mH_mw (W := fun c _ => c = 55) (fun c k q => by omega) (mw_zi (W := fun c _ => c = 55) rfl _ _) p
end S13
