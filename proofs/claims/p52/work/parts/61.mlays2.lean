
/-! ===== the reference's boxes, all fields ===== -/
section Mz
variable {P : zPl} {g : zS} {D : Nat → Nat}
theorem mL_set (hO : pOK P) {f S : Nat} (hf : f < 5) (hD : ∀ i, i < f → D i < 32) (hS : S < 32) (h : S = 0 ∨ 2 ^ mq P f ≤ S) (hm : mL P (kx D f + S * 32 ^ (4 - f)) g) : mL P (kx D f + (S + 1) * 32 ^ (4 - f)) g := by
  refine mL_skip hm (Nat.add_le_add_left (Nat.mul_le_mul_right _ (Nat.le_succ S)) _) (fun Y h1 h2 => ?_)
  cases hg : gK P Y with
  | false => rfl
  | true =>
    have h3 := ((gK_gM hO Y).mp hg).1 f hf
    rw [(kx_part hf hD hS h1 h2).2] at h3
    omega
theorem mL_end (hO : pOK P) {f : Nat} (hf : f < 5) (hD : ∀ i, i < f → D i < 32) (hm : mL P (kx D f + 2 ^ mq P f * 32 ^ (4 - f)) g) : mL P (kx D f + 32 ^ (5 - f)) g := by
  have h32 := mq32 hO f
  have go : ∀ d, 2 ^ mq P f + d ≤ 32 → mL P (kx D f + (2 ^ mq P f + d) * 32 ^ (4 - f)) g := by
    intro d
    induction d with
    | zero => intro _; exact hm
    | succ d ih => intro hd; exact mL_set (S := 2 ^ mq P f + d) hO hf hD (by omega) (Or.inr (by omega)) (ih (by omega))
  have h := go (32 - 2 ^ mq P f) (by omega)
  rw [show 2 ^ mq P f + (32 - 2 ^ mq P f) = 32 by omega] at h
  rw [show 5 - f = (4 - f) + 1 by omega, Nat.pow_succ, Nat.mul_comm]
  exact h
/-- a loop over the sets of a field -/
theorem wh_sets {R : Type} {step : Int32 × zS → Option ((Int32 × zS) ⊕ R)} {K W M : Nat} (hM : 1 ≤ M) (F : zS → Prop) (out : zS → R) (hs : ∀ i s, 1 ≤ i → i < M → F s → mL P (K + i * W) s → ∃ s', step (nI i, s) = some (.inl (nI (i + 1), s')) ∧ F s' ∧ mL P (K + (i + 1) * W) s') (he : ∀ s, F s → step (nI M, s) = some (.inr (out s))) {s : zS} (h1 : F s) (h2 : mL P (K + 1 * W) s) : ∃ s', wh step ((1 : Int32), s) = some (out s') ∧ F s' ∧ mL P (K + M * W) s' := by
  obtain ⟨r, w, s', q1, q2, q3⟩ := wh_up (step := step) (fun j (t : Int32 × zS) => t.1 = nI (j + 1) ∧ F t.2 ∧ mL P (K + (j + 1) * W) t.2) (fun r => ∃ s', r = out s' ∧ F s' ∧ mL P (K + M * W) s') (M - 1) (fun j t hj hI => by
    obtain ⟨i1, i2, i3⟩ := hI
    obtain ⟨t1, t2⟩ := t
    dsimp only at i1 i2 i3
    rw [i1]
    obtain ⟨s', w, a1, a2⟩ := hs (j + 1) t2 (by omega) (by omega) i2 i3
    exact ⟨_, w, rfl, a1, a2⟩) (fun t hI => by
    obtain ⟨i1, i2, i3⟩ := hI
    obtain ⟨t1, t2⟩ := t
    dsimp only at i1 i2 i3
    rw [show M - 1 + 1 = M by omega] at i1 i3
    rw [i1]
    exact ⟨_, he t2 i2, t2, rfl, i2, i3⟩) (s := ((1 : Int32), s)) ⟨rfl, h1, h2⟩
  exact ⟨s', by rw [w, q1], q2, q3⟩
/-- the last field's values behind each value of the field ahead -/
def b60 (P : zPl) (D : Nat → Nat) (n : Nat) (g : zS) : Prop := ∀ y, y < n → ∃ u, g.1 60 y = nI u ∧ u < 2 ^ mq P 4 ∧ ∀ z, u.testBit z = true ↔ z < mq P 4 ∧ lsP P (upA D 3 (2 ^ y)) z
theorem lsP_and {z d : Nat} (hd : d < 32) : (∀ y, y < 5 → d.testBit y = true → lsP P (upA D 3 (2 ^ y)) z) ↔ lsP P (upA D 3 d) z := by
  constructor
  · intro h a ha haz
    have h3 := ha 3 (by omega)
    unfold upA at h3
    rw [if_pos rfl] at h3
    refine h (a 3) (big_bit (n := 5) hd h3) h3 a (fun f hf => ?_) haz
    by_cases q : f = 3
    · rw [q]
      unfold upA
      rw [if_pos rfl, Nat.testBit_two_pow_self]
    · have h4 := ha f hf
      unfold upA at h4 ⊢
      rw [if_neg q] at h4 ⊢
      exact h4
  · intro h y _ hb a ha haz
    refine h a (fun f hf => ?_) haz
    by_cases q : f = 3
    · have h4 := ha f hf
      unfold upA at h4 ⊢
      rw [if_pos q] at h4 ⊢
      rw [Nat.testBit_two_pow, decide_eq_true_eq] at h4
      rw [← h4]
      exact hb
    · have h4 := ha f hf
      unfold upA at h4 ⊢
      rw [if_neg q] at h4 ⊢
      exact h4
theorem kx_3 {d : Nat} : kx (upA D 3 d) 4 = kx D 3 + d * 32 := by
  rw [kx_s, kx_congr (C := D) 3 (fun i hi => by unfold upA; rw [if_neg (by omega)])]
  rfl
theorem b60_ly {n : Nat} {h : zS} (e : h.1 60 = g.1 60) (p : b60 P D n g) : b60 P D n h := fun y hy => by rw [e]; exact p y hy
end Mz
