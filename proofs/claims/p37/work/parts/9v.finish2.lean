
/-! ===== read: the reference takes the draft ===== -/
section Fj
variable {g h k y : zS} {tn : Nat} {tb : Nat → Nat} {s p t : Nat} {P : zPl} {N : Nat} {r : Nat → Nat}
/-- a loop that goes n times round -/
theorem wh_go {S R : Type} {step : S → Option (S ⊕ R)} (I : Nat → S → Prop) : ∀ (n : Nat) {s : S}, (∀ i s, i < n → I i s → ∃ s', step s = some (.inl s') ∧ I (i + 1) s') → I 0 s → ∃ s', wh step s = wh step s' ∧ I n s'
  | 0, s, _, h0 => ⟨s, rfl, h0⟩
  | n + 1, s, hs, h0 => by
    obtain ⟨s1, w1, i1⟩ := wh_go I n (fun i s hi => hs i s (by omega)) h0
    obtain ⟨s2, w2, i2⟩ := hs n s1 (by omega) i1
    exact ⟨s2, by rw [w1, wh_in w2], i2⟩
/-- what the three copies change -/
def rc1 (y : zS) (i : Nat) (s : zS) : Prop := (∀ f, f < i → s.2.1 50 f = y.2.1 44 f ∧ s.1 51 f = y.1 45 f ∧ s.1 52 f = y.1 46 f ∧ s.1 53 f = vp_nar .boolean (y.1 47 f)) ∧ (∀ c, c ≠ 51 → c ≠ 52 → c ≠ 53 → s.1 c = y.1 c) ∧ (∀ c, c ≠ 50 → s.2.1 c = y.2.1 c) ∧ s.2.2 = y.2.2
theorem m_copy1 (y : zS) : ∃ z, wh wX11_read_235 ((0 : Int32), y) = wh wX11_read_235 (nI 5, z) ∧ rc1 y 5 z := by
  obtain ⟨⟨v, z⟩, w, e, hI⟩ := wh_go (step := wX11_read_235) (fun i (s : Int32 × zS) => s.1 = nI i ∧ rc1 y i s.2) 5 (s := ((0 : Int32), y)) (fun i s hi ⟨a1, a2, a3, a4, a5⟩ => by
    unfold wX11_read_235
    rw [a1, if_neg (show ¬ (5 : Int32) ≤ nI i from fun e => by have := (nN_le (a := 5) (by omega) (by omega)).mp e; omega)]
    simp only [zchk_t (zin_nI (show i < 5 from hi) (show 5 ≤ 2147483648 by omega)), nI_cl (show i < 2147483648 by omega)]
    refine ⟨_, rfl, nI_s i, fun f hf => ?_, fun c h1 h2 h3 => ?_, fun c hc => ?_, a5⟩
    · by_cases q : f = i
      · subst q
        refine ⟨?_, ?_, ?_, ?_⟩
        · show (zl s.2 50 f _).2.1 50 f = _
          rw [zl_at, a4 44 (by omega)]
        · rw [zi_cell _ _ (show 51 ≠ 53 by decide), zi_cell _ _ (show 51 ≠ 52 by decide), zi_at]
          show s.2.1 45 f = _
          rw [a3 45 (by omega) (by omega) (by omega)]
        · rw [zi_cell _ _ (show 52 ≠ 53 by decide), zi_at, zi_cell _ _ (show 46 ≠ 51 by decide)]
          show s.2.1 46 f = _
          rw [a3 46 (by omega) (by omega) (by omega)]
        · rw [zi_at, zi_cell _ _ (show 47 ≠ 52 by decide), zi_cell _ _ (show 47 ≠ 51 by decide)]
          show vp_nar .boolean (s.2.1 47 f) = _
          rw [a3 47 (by omega) (by omega) (by omega)]
      · obtain ⟨b1, b2, b3, b4⟩ := a2 f (by omega)
        refine ⟨?_, ?_, ?_, ?_⟩
        · show (zl s.2 50 i _).2.1 50 f = _
          rw [zl_else _ _ (by omega)]; exact b1
        · rw [zi_cell _ _ (show 51 ≠ 53 by decide), zi_cell _ _ (show 51 ≠ 52 by decide), zi_else _ _ (by omega)]
          exact b2
        · rw [zi_cell _ _ (show 52 ≠ 53 by decide), zi_else _ _ (by omega), zi_cell _ _ (show 52 ≠ 51 by decide)]
          exact b3
        · rw [zi_else _ _ (by omega), zi_cell _ _ (show 53 ≠ 52 by decide), zi_cell _ _ (show 53 ≠ 51 by decide)]
          exact b4
    · rw [zi_cell _ _ h3, zi_cell _ _ h2, zi_cell _ _ h1]
      exact a3 c h1 h2 h3
    · show (zl s.2 50 i _).2.1 c = _
      rw [← a4 c hc]
      funext k
      exact zl_else _ _ (fun e => hc e.1)) ⟨rfl, fun f hf => absurd hf (Nat.not_lt_zero f), fun _ _ _ _ => rfl, fun _ _ => rfl, rfl⟩
  dsimp only at e hI
  rw [e] at w
  exact ⟨z, w, hI⟩
def rc2 (y : zS) (c d : Nat) (i : Nat) (s : zS) : Prop := (∀ f, f < i → s.1 d f = y.1 c f) ∧ (∀ e, e ≠ d → s.1 e = y.1 e) ∧ s.2 = y.2
theorem rc2_s {s : zS} {c d i : Nat} (hcd : c ≠ d) (a : rc2 y c d i s) : rc2 y c d (i + 1) (zi s d i (s.1 c i)) := by
  obtain ⟨a1, a2, a3⟩ := a
  refine ⟨fun f hf => ?_, fun e he => ?_, a3⟩
  · by_cases q : f = i
    · rw [q, zi_at, a2 c hcd]
    · rw [zi_else _ _ (by omega)]; exact a1 f (by omega)
  · rw [zi_cell _ _ he]; exact a2 e he
theorem m_copy2 (y : zS) : ∃ z, wh wX11_read_296 ((0 : Int32), y) = wh wX11_read_296 (nI 30, z) ∧ rc2 y 48 54 30 z := by
  obtain ⟨⟨v, z⟩, w, e, hI⟩ := wh_go (step := wX11_read_296) (fun i (s : Int32 × zS) => s.1 = nI i ∧ rc2 y 48 54 i s.2) 30 (s := ((0 : Int32), y)) (fun i s hi ⟨a1, a2⟩ => by
    unfold wX11_read_296
    rw [a1, if_neg (show ¬ (30 : Int32) ≤ nI i from fun e => by have := (nN_le (a := 30) (by omega) (by omega)).mp e; omega), zchk_t (zin_nI hi (by omega)), zchk_t (zin_nI hi (by omega)), nI_cl (by omega)]
    exact ⟨_, rfl, nI_s i, rc2_s (by decide) a2⟩) ⟨rfl, fun f hf => absurd hf (Nat.not_lt_zero f), fun _ _ => rfl, rfl⟩
  dsimp only at e hI
  rw [e] at w
  exact ⟨z, w, hI⟩
theorem m_copy3 (y : zS) : ∃ z, wh wX11_read_322 ((0 : Int32), y) = wh wX11_read_322 (nI 200, z) ∧ rc2 y 49 55 200 z := by
  obtain ⟨⟨v, z⟩, w, e, hI⟩ := wh_go (step := wX11_read_322) (fun i (s : Int32 × zS) => s.1 = nI i ∧ rc2 y 49 55 i s.2) 200 (s := ((0 : Int32), y)) (fun i s hi ⟨a1, a2⟩ => by
    unfold wX11_read_322
    rw [a1, if_neg (show ¬ (200 : Int32) ≤ nI i from fun e => by have := (nN_le (a := 200) (by omega) (by omega)).mp e; omega), zchk_t (zin_nI hi (by omega)), zchk_t (zin_nI hi (by omega)), nI_cl (by omega)]
    exact ⟨_, rfl, nI_s i, rc2_s (by decide) a2⟩) ⟨rfl, fun f hf => absurd hf (Nat.not_lt_zero f), fun _ _ => rfl, rfl⟩
  dsimp only at e hI
  rw [e] at w
  exact ⟨z, w, hI⟩
theorem m_finish (hO : pOK P) (hN : N ≤ 40) (hr : ∀ i, i < N → rOK P (r i)) (hD : mDf P N r y) (h5 : y.1 42 5 = -1) (h2 : y.1 42 2 = 0) (h58 : ∀ f, f < 5 → y.1 58 f = nI (5 ^ (4 - f))) : ∃ h, jX11_read_189 0 y = some (nI N, h) ∧ mPn P h ∧ mR P N r h ∧ mH P 0 (fun _ => 0) (fun _ _ => 0) h ∧ h.1 42 0 = 0 ∧ h.1 42 5 = -1 ∧ h.1 42 2 = 0 ∧ h.1 42 46 = y.1 42 46 ∧ h.1 71 = y.1 71 ∧ fr kRf y h := by
  have hp5 := hO.1
  have hm6 := hO.2.2.2.1
  obtain ⟨d0, d1, d2, d3, d4, d5, d6, d7, d8, d9⟩ := hD
  obtain ⟨y0, e0⟩ : ∃ y0, y0 = zi (zi (zi (zi (zi y 42 0 (0 : Int32)) 42 16 ((zi y 42 0 (0 : Int32)).1 42 6)) 42 17 ((zi (zi y 42 0 (0 : Int32)) 42 16 ((zi y 42 0 (0 : Int32)).1 42 6)).1 42 7)) 42 18 ((zi (zi (zi y 42 0 (0 : Int32)) 42 16 ((zi y 42 0 (0 : Int32)).1 42 6)) 42 17 ((zi (zi y 42 0 (0 : Int32)) 42 16 ((zi y 42 0 (0 : Int32)).1 42 6)).1 42 7)).1 42 8)) 42 19 ((zi (zi (zi (zi y 42 0 (0 : Int32)) 42 16 ((zi y 42 0 (0 : Int32)).1 42 6)) 42 17 ((zi (zi y 42 0 (0 : Int32)) 42 16 ((zi y 42 0 (0 : Int32)).1 42 6)).1 42 7)) 42 18 ((zi (zi (zi y 42 0 (0 : Int32)) 42 16 ((zi y 42 0 (0 : Int32)).1 42 6)) 42 17 ((zi (zi y 42 0 (0 : Int32)) 42 16 ((zi y 42 0 (0 : Int32)).1 42 6)).1 42 7)).1 42 8)).1 42 9) := ⟨_, rfl⟩
  have v0 : ∀ c i, y0.1 c i = if c = 42 ∧ i = 19 then y.1 42 9 else if c = 42 ∧ i = 18 then y.1 42 8 else if c = 42 ∧ i = 17 then y.1 42 7 else if c = 42 ∧ i = 16 then y.1 42 6 else if c = 42 ∧ i = 0 then 0 else y.1 c i := fun c i => by rw [e0]; rfl
  have c0 : ∀ c, c ≠ 42 → y0.1 c = y.1 c := fun c hc => funext fun i => by
    rw [v0, if_neg (fun e => hc e.1), if_neg (fun e => hc e.1), if_neg (fun e => hc e.1), if_neg (fun e => hc e.1), if_neg (fun e => hc e.1)]
  have l0 : y0.2 = y.2 := by rw [e0]; rfl
  obtain ⟨y1, w1, a1, a2, a3, a4⟩ := m_copy1 y0
  obtain ⟨y2, w2, b1, b2, b3⟩ := m_copy2 y1
  obtain ⟨y3, w3, u1, u2, u3⟩ := m_copy3 y2
  obtain ⟨z, ez⟩ : ∃ z, z = zi y3 42 32 (0 : Int32) := ⟨_, rfl⟩
  have z42 : ∀ i, i ≠ 32 → z.1 42 i = y0.1 42 i := fun i hi => by
    rw [ez, zi_else _ _ (by omega), u2 42 (by decide), b2 42 (by decide), a2 42 (by decide) (by decide) (by decide)]
  have zc : ∀ c, c ≠ 42 → c ≠ 51 → c ≠ 52 → c ≠ 53 → c ≠ 54 → c ≠ 55 → z.1 c = y.1 c := fun c h1 h2 h3 h4 h5 h6 => by
    rw [ez, zi_cell _ _ h1, u2 c h6, b2 c h5, a2 c h2 h3 h4, c0 c h1]
  have z123 : ∀ c, c = 51 ∨ c = 52 ∨ c = 53 → z.1 c = y1.1 c := fun c hc => by
    rw [ez, zi_cell _ _ (by omega), u2 c (by omega), b2 c (by omega)]
  have z54 : ∀ i, i < 30 → z.1 54 i = y.1 48 i := fun i hi => by
    rw [ez, zi_cell _ _ (by decide), u2 54 (by decide), b1 i hi, a2 48 (by decide) (by decide) (by decide), c0 48 (by decide)]
  have z55 : ∀ i, i < 200 → z.1 55 i = y.1 49 i := fun i hi => by
    rw [ez, zi_cell _ _ (by decide), u1 i hi, b2 49 (by decide), a2 49 (by decide) (by decide) (by decide), c0 49 (by decide)]
  have zl2 : z.2 = y1.2 := by
    rw [ez]
    show y3.2 = _
    rw [u3, b3]
  have zP : mP P z := by
    refine ⟨?_, ?_, ?_, fun f hf => ?_, fun f hf => ?_, fun f hf => ?_, fun e he f hf => ?_, fun f hf => ?_⟩
    · rw [z42 16 (by decide), v0]; exact d0
    · rw [z42 17 (by decide), v0]; exact d1
    · rw [z42 19 (by decide), v0]; exact d3
    · rw [z123 51 (by omega), (a1 f (by omega)).2.1, c0 45 (by decide)]; exact d5 f hf
    · rw [z123 52 (by omega), (a1 f (by omega)).2.2.1, c0 46 (by decide)]; exact d6 f hf
    · rw [z123 53 (by omega), (a1 f (by omega)).2.2.2, c0 47 (by decide), d7 f hf]
      have hs := (hO.2.1 f hf).2.2.2.2
      have : ps P f = 0 ∨ ps P f = 1 := by omega
      rcases this with q | q
      · rw [q]; exact bool_nar.2
      · rw [q]; exact bool_nar.1
    · rw [z54 _ (by omega)]; exact d8 e he f hf
    · rw [zc 58 (by decide) (by decide) (by decide) (by decide) (by decide) (by decide)]; exact h58 f hf
  obtain ⟨h, w4, hF, f4⟩ := m_lays hO zP
  have g42 : ∀ i, i ≠ 29 → h.1 42 i = z.1 42 i := fun i hi => by rw [(f4.1 42 rfl).1, zi_else _ _ (by omega)]
  have gc : ∀ c, c ≠ 42 → c ≠ 56 → c ≠ 57 → h.1 c = z.1 c := fun c h1 h2 h3 => by
    rw [(f4.1 c (by unfold kLy; rw [Bool.or_eq_false_iff, beq_eq_false_iff_ne, beq_eq_false_iff_ne]; exact ⟨h2, h3⟩)).1, zi_cell _ _ h1]
  have gP : mP P h := by
    refine mP_fr (K := kLy) ⟨rfl, rfl, rfl, rfl, rfl, rfl⟩ f4 ?_
    unfold mP at zP ⊢
    rw [zi_else (c := 42) (k := 29) (i := 16) z (-1) (by decide), zi_else (c := 42) (k := 29) (i := 17) z (-1) (by decide), zi_else (c := 42) (k := 29) (i := 19) z (-1) (by decide), zi_cell z (-1) (show 51 ≠ 42 by decide), zi_cell z (-1) (show 52 ≠ 42 by decide), zi_cell z (-1) (show 53 ≠ 42 by decide), zi_cell z (-1) (show 54 ≠ 42 by decide), zi_cell z (-1) (show 58 ≠ 42 by decide)]
    exact zP
  have h18 : h.1 42 18 = nI N := by rw [g42 18 (by decide), z42 18 (by decide), v0]; exact d2
  have out : jX11_read_189 0 y = some (nI N, h) := by
    have s3 : wh wX11_read_322 ((0 : Int32), y2) = some (nI N, h) := by
      rw [w3]
      refine wh_out ?_
      unfold wX11_read_322
      dsimp only
      rw [if_pos (show (200 : Int32) ≤ nI 200 from Int32.le_refl _), ← ez, w4, Option.bind_some, h18]
      rfl
    have s2 : wh wX11_read_296 ((0 : Int32), y1) = some (nI N, h) := by
      rw [w2]
      refine wh_out ?_
      unfold wX11_read_296
      dsimp only
      rw [if_pos (show (30 : Int32) ≤ nI 30 from Int32.le_refl _), s3]
      rfl
    have s1 : wh wX11_read_235 ((0 : Int32), y0) = some (nI N, h) := by
      rw [w1]
      refine wh_out ?_
      unfold wX11_read_235
      dsimp only
      rw [if_pos (show (5 : Int32) ≤ nI 5 from Int32.le_refl _), s2]
      rfl
    unfold jX11_read_189
    rw [zi_at y 42 0 0, if_pos (Int32.le_refl 0), ← e0, s1]
  refine ⟨h, out, ⟨gP, hF, fun f hf => ?_, Or.inl ?_⟩, ⟨h18, hN, fun i hi => ⟨fun f hf => ?_, hr i hi⟩⟩, ⟨?_, Nat.zero_le _, fun p hp => absurd hp (Nat.not_lt_zero p)⟩, ?_, ?_, ?_, ?_, ?_, ⟨fun c hc => ⟨?_, ?_⟩, f4.2.1 ∘ ?_, ?_⟩⟩
  · rw [(f4.1 50 rfl).2]
    show z.2.1 50 f = _
    rw [zl2, (a1 f (by omega)).1, l0, d4 f hf]
    rfl
  · rw [(f4.1 42 rfl).1, zi_at]
  · rw [gc 55 (by decide) (by decide) (by decide), z55 _ (by omega)]; exact d9 i hi f hf
  · rw [g42 32 (by decide), ez, zi_at]; rfl
  · rw [g42 0 (by decide), z42 0 (by decide), v0]; rfl
  · rw [g42 5 (by decide), z42 5 (by decide), v0]; exact h5
  · rw [g42 2 (by decide), z42 2 (by decide), v0]; exact h2
  · rw [g42 46 (by decide), z42 46 (by decide), v0]; rfl
  · rw [gc 71 (by decide) (by decide) (by decide), zc 71 (by decide) (by decide) (by decide) (by decide) (by decide) (by decide)]
  · unfold kRf at hc
    rw [Bool.and_eq_false_iff, decide_eq_false_iff_not, decide_eq_false_iff_not] at hc
    rw [gc c (by omega) (by omega) (by omega), zc c (by omega) (by omega) (by omega) (by omega) (by omega) (by omega)]
  · unfold kRf at hc
    rw [Bool.and_eq_false_iff, decide_eq_false_iff_not, decide_eq_false_iff_not] at hc
    rw [(f4.1 c (by unfold kLy; rw [Bool.or_eq_false_iff, beq_eq_false_iff_ne, beq_eq_false_iff_ne]; omega)).2]
    show z.2.1 c = _
    rw [zl2, a3 c (by omega), l0]
  · intro q
    show z.2.2.1 ≤ 1
    rw [zl2, a4, l0]
    exact q
  · rw [f4.2.2]
    show z.2.2.2 = _
    rw [zl2, a4, l0]
end Fj
