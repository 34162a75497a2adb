
/-! ===== sets of fields by weight ===== -/
section So
variable {P : zPl} {g : zS}
theorem pcn_le (k : Nat) : pcn k ≤ 6 := by
  have h : ∀ n, foN (fun i a => a + (if k.testBit i then 1 else 0)) n 0 ≤ n := by
    intro n
    induction n with
    | zero => exact Nat.le_refl _
    | succ n ih =>
      show foN _ n 0 + (if k.testBit n then 1 else 0) ≤ n + 1
      have : (if k.testBit n then 1 else 0 : Nat) ≤ 1 := by split <;> omega
      omega
  exact h 6
theorem e_isLess (hO : pOK P) (hP : cP P g) {a b : Nat} (ha : a < 32) (hba : b < a) : nX5_isLess (nI a) (nI b) g = some (if kO P a < kO P b then 1 else 0) := by
  have h5 := hO.1
  have w1 := wSum_le hO a (pn P) (Nat.le_refl _)
  have w2 := wSum_le hO b (pn P) (Nat.le_refl _)
  have p1 := pcn_le a
  have p2 := pcn_le b
  unfold nX5_isLess
  rw [e_weightOf hO hP, e_weightOf hO hP]
  dsimp only [Option.bind_some]
  unfold kO
  by_cases c1 : wSum P a (pn P) < wSum P b (pn P)
  · rw [if_pos ((nN_lt (by omega) (by omega)).mpr c1), if_pos (by omega)]
  · rw [if_neg (fun q => c1 ((nN_lt (by omega) (by omega)).mp q))]
    by_cases c2 : wSum P a (pn P) = wSum P b (pn P)
    · rw [if_pos (by rw [c2]), e_bitCount (by omega), e_bitCount (by omega)]
      dsimp only [Option.bind_some]
      by_cases c3 : pcn b ≤ pcn a
      · rw [if_pos ((nN_le (by omega) (by omega)).mpr c3), if_neg (by omega)]
      · rw [if_neg (fun q => c3 ((nN_le (by omega) (by omega)).mp q)), if_pos (by omega)]
    · rw [if_neg (fun q => c2 ((nN_eq (by omega) (by omega)).mp q)), if_neg (by omega)]
def k22 (c : Nat) : Bool := c == 22
theorem e_sortSets (hO : pOK P) (hP : cP P g) : ∃ h, nX5_sortSets g = some h ∧ cL P h ∧ fr k22 g h := by
  have h5 := hO.1
  have h7 := p2n hO
  have hpos : 0 < 2 ^ pn P := Nat.two_pow_pos _
  have hcp : ∀ {s : zS}, fr k22 g s → cP P s := fun h => cP_fr ⟨rfl, rfl, rfl, rfl, rfl, rfl, rfl⟩ h hP
  unfold nX5_sortSets
  refine wh_up (fun i (s : Int32 × zS) => s.1 = nI i ∧ (∃ o : Nat → Nat, (∀ k, k < i → s.2.1 22 k = nI (o k) ∧ o k < i) ∧ (∀ S, S < i → ∃ k, k < i ∧ o k = S) ∧ ∀ a b, a < b → b < i → kO P (o a) < kO P (o b)) ∧ fr k22 g s.2) _ (2 ^ pn P) (fun i s hi hI => ?_) (fun s hI => ?_) ⟨rfl, ⟨fun _ => 0, fun k hk => absurd hk (Nat.not_lt_zero k), fun k hk => absurd hk (Nat.not_lt_zero k), fun a b _ hb => absurd hb (Nat.not_lt_zero b)⟩, fr_rfl _ _⟩
  · obtain ⟨i1, ⟨o, o1, o2, o3⟩, i3⟩ := hI
    obtain ⟨s1, s2⟩ := s
    dsimp only at i1 o1 i3
    dsimp only [wX5_sortSets_2]
    rw [e_allFields hO (hcp i3)]
    dsimp only [Option.bind_some]
    rw [i1, if_neg (by rw [nN_lt (by omega) (by omega)]; omega)]
    obtain ⟨r, w, s', hr, q1, p, hp, q2, q3, q4, q5, q6, q7⟩ := wh_post (step := wX5_sortSets_15 (nI i)) (fun s : Int32 × zS => ∃ p, p ≤ i ∧ s.1 = nI p ∧ (∀ k, k < p → s.2.1 22 k = nI (o k)) ∧ (∀ k, p < k → k ≤ i → s.2.1 22 k = nI (o (k - 1))) ∧ (∀ j, p ≤ j → j < i → kO P i < kO P (o j)) ∧ fr k22 g s.2) (fun s => s.1.toNatClampNeg) (fun r => ∃ s' : Int32 × zS, r = Sum.inl s' ∧ s'.1 = nI (i + 1) ∧ ∃ p, p ≤ i ∧ (∀ k, k < p → s'.2.1 22 k = nI (o k)) ∧ s'.2.1 22 p = nI i ∧ (∀ k, p < k → k ≤ i → s'.2.1 22 k = nI (o (k - 1))) ∧ (p = 0 ∨ ¬ kO P i < kO P (o (p - 1))) ∧ (∀ j, p ≤ j → j < i → kO P i < kO P (o j)) ∧ fr k22 g s'.2) (fun s hJ => by
      obtain ⟨p, hp, j1, j2, j3, j4, j5⟩ := hJ
      obtain ⟨u1, u2⟩ := s
      dsimp only at j1 j2 j3 j5
      have fin : zex (zchk (zin u1 32) (some (Sum.inl (nI i + (1 : Int32), zi u2 22 u1.toNatClampNeg (nI i)) : (Int32 × zS) ⊕ zS))) = some (Sum.inr (Sum.inl (nI (i + 1), zi u2 22 p (nI i))) : (Int32 × zS) ⊕ ((Int32 × zS) ⊕ zS)) := by
        rw [j1, zchk_t (zin_nI (by omega) (by omega)), nI_cl (by omega), nI_s]; rfl
      have finQ : (p = 0 ∨ ¬ kO P i < kO P (o (p - 1))) → ∃ s' : Int32 × zS, (Sum.inl (nI (i + 1), zi u2 22 p (nI i)) : (Int32 × zS) ⊕ zS) = Sum.inl s' ∧ s'.1 = nI (i + 1) ∧ ∃ p, p ≤ i ∧ (∀ k, k < p → s'.2.1 22 k = nI (o k)) ∧ s'.2.1 22 p = nI i ∧ (∀ k, p < k → k ≤ i → s'.2.1 22 k = nI (o (k - 1))) ∧ (p = 0 ∨ ¬ kO P i < kO P (o (p - 1))) ∧ (∀ j, p ≤ j → j < i → kO P i < kO P (o j)) ∧ fr k22 g s'.2 := fun hq => ⟨_, rfl, rfl, p, hp, fun k hk => (zi_else _ _ (fun e => absurd e.2 (by omega))).trans (j2 k hk), zi_at _ _ _ _, fun k hk hki => (zi_else _ _ (fun e => absurd e.2 (by omega))).trans (j3 k hk hki), hq, j4, fr_tr j5 (fr_zi rfl _ _ _)⟩
      dsimp only [wX5_sortSets_15]
      by_cases hp0 : p = 0
      · rw [if_pos (show u1 ≤ 0 by rw [j1, hp0]; exact Int32.le_refl _), fin]
        exact ⟨_, rfl, finQ (Or.inl hp0)⟩
      · rw [if_neg (show ¬ u1 ≤ 0 by rw [j1, show (0 : Int32) = nI 0 from rfl, nN_le (by omega) (by omega)]; omega)]
        have e1 : u1 - (1 : Int32) = nI (p - 1) := by rw [j1]; exact nI_sub (a := p) (b := 1) (by omega)
        have op := o1 (p - 1) (by omega)
        rw [e1, zchk_t (zin_nI (by omega) (by omega)), nI_cl (by omega), j2 (p - 1) (by omega), e_isLess hO (hcp j5) (by omega) op.2]
        dsimp only [Option.bind_some]
        by_cases hl : kO P i < kO P (o (p - 1))
        · rw [if_neg (show ¬ (if kO P i < kO P (o (p - 1)) then (1 : Int32) else 0) = 0 by rw [if_pos hl]; decide), zchk_t (zin_nI (by omega) (by omega)), j1, zchk_t (zin_nI (by omega) (by omega)), nI_cl (by omega)]
          have e2 : nI p + (-1 : Int32) = nI (p - 1) := by rw [← e1, j1, Int32.sub_eq_add_neg]
          rw [e2]
          refine ⟨_, rfl, ⟨p - 1, by omega, rfl, fun k hk => (zi_else _ _ (fun e => absurd e.2 (by omega))).trans (j2 k (by omega)), fun k hk hki => ?_, fun j hj hji => ?_, fr_tr j5 (fr_zi rfl _ _ _)⟩, ?_⟩
          · by_cases hkp : k = p
            · subst hkp; exact zi_at _ _ _ _
            · exact (zi_else _ _ (fun e => absurd e.2 hkp)).trans (j3 k (by omega) hki)
          · by_cases hjp : j = p - 1
            · rw [hjp]; exact hl
            · exact j4 j (by omega) hji
          · show (nI (p - 1)).toNatClampNeg < p
            rw [nI_cl (by omega)]; omega
        · rw [if_pos (show (if kO P i < kO P (o (p - 1)) then (1 : Int32) else 0) = 0 by rw [if_neg hl]), fin]
          exact ⟨_, rfl, finQ (Or.inr hl)⟩) ((nI i), s2) ⟨i, Nat.le_refl _, rfl, fun k hk => (o1 k hk).1, fun k hk hki => absurd hk (by omega), fun j hj hji => absurd hj (by omega), i3⟩
    refine ⟨s', by rw [w, hr], q1, ⟨fun k => if k < p then o k else if k = p then i else o (k - 1), fun k hk => ?_, fun S hS => ?_, fun a b hab hb => ?_⟩, q7⟩
    · dsimp only
      by_cases c1 : k < p
      · rw [if_pos c1]
        exact ⟨q2 k c1, by have := (o1 k (by omega)).2; omega⟩
      · rw [if_neg c1]
        by_cases c2 : k = p
        · rw [if_pos c2, c2]
          exact ⟨q3, by omega⟩
        · rw [if_neg c2]
          exact ⟨q4 k (by omega) (by omega), by have := (o1 (k - 1) (by omega)).2; omega⟩
    · by_cases c : S = i
      · exact ⟨p, by omega, by dsimp only; rw [if_neg (by omega), if_pos rfl, c]⟩
      · obtain ⟨k, hk, hk2⟩ := o2 S (by omega)
        by_cases c1 : k < p
        · exact ⟨k, by omega, by dsimp only; rw [if_pos c1, hk2]⟩
        · exact ⟨k + 1, by omega, by dsimp only; rw [if_neg (by omega), if_neg (by omega), Nat.add_sub_cancel, hk2]⟩
    · dsimp only
      have key : ∀ j, j < p → kO P (o j) < kO P i := fun j hj => by
        have hne : kO P (o (p - 1)) ≠ kO P i := by
          have := (o1 (p - 1) (by omega)).2
          have := pcn_le (o (p - 1))
          have := pcn_le i
          unfold kO
          omega
        have h1 : ¬ kO P i < kO P (o (p - 1)) := by
          rcases q5 with q | q
          · omega
          · exact q
        by_cases c : j = p - 1
        · rw [c]; omega
        · have := o3 j (p - 1) (by omega) (by omega)
          omega
      by_cases c1 : b < p
      · rw [if_pos (by omega), if_pos c1]
        exact o3 a b hab (by omega)
      · rw [if_neg c1]
        by_cases c2 : b = p
        · rw [if_pos c2, if_pos (by omega)]
          exact key a (by omega)
        · rw [if_neg c2]
          by_cases c3 : a < p
          · rw [if_pos c3]
            exact o3 a (b - 1) (by omega) (by omega)
          · rw [if_neg c3]
            by_cases c4 : a = p
            · rw [if_pos c4]
              exact q6 (b - 1) (by omega) (by omega)
            · rw [if_neg c4]
              exact o3 (a - 1) (b - 1) (by omega) (by omega)
  · obtain ⟨i1, i2, i3⟩ := hI
    obtain ⟨s1, s2⟩ := s
    dsimp only at i1 i2 i3
    dsimp only [wX5_sortSets_2]
    rw [e_allFields hO (hcp i3)]
    dsimp only [Option.bind_some]
    rw [i1, if_pos (by rw [nN_lt (by omega) (by omega)]; omega)]
    exact ⟨_, rfl, i2, i3⟩
end So
