
/-! ===== steps: usual values, what may stand, what is likely ===== -/
section S6
variable {g h : zS} {P : zPl} {N : Nat} {r : Nat → Nat}
/-! an answer put into a row of the reference -/
theorem rOK_wa (hO : pOK P) {c f k : Nat} (hc : rOK P c) (hf : f < pn P) (hk : k ≤ pq P f) : rOK P (wa c f k) := by
  have h5 := hO.1
  have hq := (hO.2.1 f hf).2.1
  refine ⟨wa_lt hc.1 (by omega) (by omega), fun i hi => ?_, fun i hi hi5 => ?_⟩
  · rw [rv_wa (by omega) (by omega) (by omega)]
    split
    · next q => rw [q]; exact hk
    · exact hc.2.1 i hi
  · rw [rv_wa (by omega) (by omega) (by omega), if_neg (by omega)]
    exact hc.2.2 i hi hi5
theorem mR_set (hO : pOK P) (hR : mR P N r g) {i f k : Nat} (hi : i < N) (hf : f < pn P) (hk : k ≤ pq P f) : mR P N (upA r i (wa (r i) f k)) (zi g 55 (5 * i + f) (nJ k)) := by
  have h5 := hO.1
  have hq := (hO.2.1 f hf).2.1
  obtain ⟨r1, r2, r3⟩ := hR
  refine ⟨by rw [zi_cell _ _ (show 42 ≠ 55 by decide)]; exact r1, r2, fun j hj => ?_⟩
  unfold upA
  by_cases q : j = i
  · rw [if_pos q, q]
    refine ⟨fun e he => ?_, rOK_wa hO (r3 i hi).2 hf hk⟩
    rw [rv_wa (by omega) (by omega) (by omega)]
    by_cases q2 : e = f
    · rw [if_pos q2, q2, zi_at]
    · rw [if_neg q2, zi_else _ _ (fun e => by have := e.2; omega)]
      exact (r3 i hi).1 e he
  · rw [if_neg q]
    refine ⟨fun e he => ?_, (r3 j hj).2⟩
    rw [zi_else _ _ (fun x => by have := x.2; omega)]
    exact (r3 j hj).1 e he
/-- what may stand in a field -/
theorem vIn_may (hO : pOK P) {c f : Nat} (hc : rOK P c) (hf : f < pn P) (hm : mSb c (2 ^ f) (pn P) = true) : vIn P c (2 ^ f) f = bS (fun v => rgt P (wa c f (v + 1))) (pq P f) := by
  have h5 := hO.1
  have hq := (hO.2.1 f hf).2.1
  rw [mSb_iff h5] at hm
  have hrv : ∀ i, i < pn P → i ≠ f → rv c i ≠ 0 := fun i hi hif q => by
    have := hm i hi q
    rw [Nat.testBit_two_pow, decide_eq_true_eq] at this
    exact hif this.symm
  have hfull : ∀ v, v < pq P f → ∀ i, i < pn P → rv (wa c f (v + 1)) i ≠ 0 := fun v hv i hi => by
    rw [rv_wa (by omega) (by omega) (by omega)]
    split
    · omega
    · next q => exact hrv i hi q
  have hfs : ∀ v, v < pq P f → (rgt P (wa c f (v + 1)) = true ↔ fs P (fun i => rv (wa c f (v + 1)) i - 1) = 0) := fun v hv => by
    unfold rgt
    rw [(rmis_0 _ _).mpr (hfull v hv), lft_full (hfull v hv), beq_self_eq_true, Bool.true_and, beq_iff_eq]
  apply Nat.eq_of_testBit_eq
  intro v
  rw [Bool.eq_iff_iff, vIn_iff hO hc hf, bS_bit, Bool.and_eq_true, decide_eq_true_eq]
  constructor
  · rintro ⟨a, w, rfl⟩
    have hv := w.1 f hf
    refine ⟨hv, (hfs _ hv).mpr ?_⟩
    rw [← w.2.2]
    refine fs_congr P (fun i hi => ?_)
    rw [rv_wa (by omega) (by omega) (by omega)]
    by_cases q : i = f
    · rw [if_pos q, q, Nat.add_sub_cancel]
    · rw [if_neg q, w.2.1 i hi (by rw [Nat.testBit_two_pow, decide_eq_false (fun e => q e.symm)]), Nat.add_sub_cancel]
  · rintro ⟨hv, hr⟩
    refine ⟨fun i => rv (wa c f (v + 1)) i - 1, ⟨fun i hi => ?_, fun i hi hb => ?_, (hfs v hv).mp hr⟩, ?_⟩
    · have h1 := (rOK_wa hO hc hf (k := v + 1) (by omega)).2.1 i hi
      have h2 := hfull v hv i hi
      dsimp only
      omega
    · rw [Nat.testBit_two_pow, decide_eq_false_iff_not] at hb
      have q : i ≠ f := fun e => hb e.symm
      have h2 := hrv i hi q
      dsimp only
      rw [rv_wa (by omega) (by omega) (by omega), if_neg q]
      omega
    · dsimp only
      rw [rv_wa (by omega) (by omega) (by omega), if_pos rfl, Nat.add_sub_cancel]
theorem mP_55 {k : Nat} {x : Int32} (p : mP P g) : mP P (zi g 55 k x) := by
  unfold mP at p ⊢
  rw [zi_cell g x (show 42 ≠ 55 by decide), zi_cell g x (show 51 ≠ 55 by decide), zi_cell g x (show 52 ≠ 55 by decide), zi_cell g x (show 53 ≠ 55 by decide), zi_cell g x (show 54 ≠ 55 by decide), zi_cell g x (show 58 ≠ 55 by decide)]
  exact p
theorem mF_55 {k : Nat} {x : Int32} (p : mF P g) : mF P (zi g 55 k x) := by
  unfold mF at p ⊢
  rw [zi_cell g x (show 56 ≠ 55 by decide), zi_cell g x (show 57 ≠ 55 by decide)]
  exact p
theorem zi_self (g : zS) (c k : Nat) : zi g c k (g.1 c k) = g := by
  unfold zi
  refine Prod.ext (funext fun i => funext fun j => ?_) rfl
  dsimp only
  split
  · next q => rw [q.1, q.2]
  · rfl
end S6
