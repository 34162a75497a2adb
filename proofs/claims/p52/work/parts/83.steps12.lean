
/-! ===== steps: tell, copy, drop, undo ===== -/
section S12
variable {S S' : zSt} {g h k : zS} {P : zPl} {N K : Nat} {r : Nat → Nat} {hN : Nat → Nat} {hr : Nat → Nat → Nat}
/-- what the reference's memory changes -/
def wRm (c i : Nat) : Prop := c = 61 ∨ c = 62 ∨ (c = 42 ∧ i = 32)
theorem mH_idx {p i f : Nat} (h : i < 40) (hf : f < 5) : 200 * p + (5 * i + f) < 200 * (p + 1) := by omega
theorem mH_congr {hN' : Nat → Nat} {hr' : Nat → Nat → Nat} (h1 : ∀ p, p < K → hN p = hN' p) (h2 : ∀ p, p < K → hr p = hr' p) (h : mH P K hN hr g) : mH P K hN' hr' g := ⟨h.1, h.2.1, fun p hp => by rw [← h1 p hp, ← h2 p hp]; exact h.2.2 p hp⟩
theorem rmK_le {K : Nat} (h : K ≤ 16) : rmK K ≤ 16 := by
  unfold rmK
  split <;> omega
theorem hz_rm (hz : pn P = 0 → N = 0 ∧ ∀ p, p < K → hN p = 0) (hK : K ≤ 16) (q : pn P = 0) : ∀ p, p < rmK K → rmS K hN N p = 0 := fun p hp => by
  obtain ⟨z1, z2⟩ := hz q
  unfold rmS
  by_cases e : p + 1 = rmK K
  · rw [if_pos e]; exact z1
  · rw [if_neg e]
    unfold rmK at hp e
    by_cases c : K = 16
    · rw [if_pos c] at hp e ⊢
      exact z2 _ (by omega)
    · rw [if_neg c] at hp e ⊢
      exact z2 _ (by omega)
/-- the class after a change of its rows -/
theorem cI_rows {H' : Nat × (Nat → Nat) × Nat × (Nat → Nat) × (Nat → Nat → Nat)} (hc : cI S g) (a : fr kRw g h) (p : cRw S.1 H' h) : cI (S.1, H', S.2.2) h := by
  obtain ⟨p1, p2, p3, p4, p5, p6, p7⟩ := hc
  refine ⟨p1, cPn_fr (K := kRw) (fun c hc => ?_) a p2, p, cTp_eq (a.1 1 rfl).1 (a.1 2 rfl).1 p4, cWr_eq (by rw [(a.1 0 rfl).1]) (a.1 41 rfl).1 (a.1 15 rfl).1 p5, by rw [(a.1 0 rfl).1]; exact p6, bKn_eq (a.1 26 rfl).1 (a.1 27 rfl).1 a.2.2 p7⟩
  unfold kRw
  rw [Bool.and_eq_false_iff, decide_eq_false_iff_not, decide_eq_false_iff_not]
  omega
theorem kRw_N (a : fr kRw g h) : fr kN g h := fr_le (fun c hc => by
  unfold kN at hc
  rw [Bool.or_eq_false_iff, decide_eq_false_iff_not] at hc
  unfold kRw
  rw [Bool.and_eq_false_iff, decide_eq_false_iff_not, decide_eq_false_iff_not]
  omega) a
/-- the reference after a change of its rows -/
def wRw (c i : Nat) : Prop := c = 55 ∨ c = 60 ∨ c = 61 ∨ c = 62 ∨ (63 ≤ c ∧ c ≤ 70) ∨ (c = 42 ∧ (i = 0 ∨ i = 18 ∨ i = 32 ∨ i = 36 ∨ i = 42))
theorem rI_rows {H' : Nat × (Nat → Nat) × Nat × (Nat → Nat) × (Nat → Nat → Nat)} (hm : rI S g) (a : mw wRw g h) (p : mRw S.1 H' h) : rI (S.1, H', S.2.2) h := by
  obtain ⟨p1, p2, p3, p4, p5⟩ := hm
  refine ⟨mPn_mw (fun c k q => by unfold wRw at q; omega) a p1, p, mTp_mw (fun c k q => by unfold wRw at q; omega) a p3, mWr_mw (fun c k q => by unfold wRw at q; omega) a p4, ?_⟩
  rw [a.1 42 5 (by unfold wRw; omega)]
  exact p5
theorem wRw_R (a : mw wRw g h) : fr kRf g h := mw_fr (fun c k q => by unfold wRw at q; omega) a
theorem wRm_Rw (a : mw wRm g h) : mw wRw g h := mw_le (fun c k q => by unfold wRm at q; unfold wRw; omega) a
theorem sc_Rw (a : sc g h) : mw wRw g h := mw_sc (fun c k q => by unfold wRw; omega) a
end S12
