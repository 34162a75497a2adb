
section Mq
variable {P : zPl} {g : zS}
theorem bS_s (b : Nat → Bool) (n : Nat) : bS b (n + 1) = if b n then bS b n ||| 2 ^ n else bS b n := rfl
theorem m_lays77 (hO : pOK P) (hM : mP P g) {x : Nat} (hx : x < 3125) (h7 : g.1 57 x = bI (isF5 P x)) (h6 : g.1 56 x = 0) : ∃ h, wh (wX11_lays_77 (nI x)) ((0 : Int32), g) = some (.inl (nI (x + 1), h)) ∧ lyX x g h ∧ h.1 57 x = bI (isF5 P x) ∧ h.1 56 x = nI (fsM P x) := by
  have h5 := hO.1
  have hm := hO.2.2.2.1
  have hrefl : lyX x g g := ⟨fr_rfl _ _, fun _ _ => ⟨rfl, rfl⟩⟩
  cases hf : isF5 P x with
  | false =>
    refine ⟨g, wh_out ?_, hrefl, by rw [h7, hf], ?_⟩
    · dsimp only [wX11_lays_77]
      by_cases c : g.1 42 17 ≤ 0
      · rw [if_pos c, nI_s]; rfl
      · rw [if_neg c, zchk_t (zin_nI hx (by omega)), nI_cl (by omega), h7, hf, if_pos ((bI_0 false).mpr rfl), nI_s]; rfl
    · rw [h6]
      unfold fsM
      rw [hf, if_neg (by decide)]
      rfl
  | true =>
    obtain ⟨r, w, h, q1, q2, q3, q4⟩ := wh_up (step := wX11_lays_77 (nI x)) (fun e (s : Int32 × zS) => s.1 = nI e ∧ lyX x g s.2 ∧ s.2.1 57 x = bI true ∧ s.2.1 56 x = nI (bS (eF P x) e)) (fun r => ∃ h : zS, r = Sum.inl (nI (x + 1), h) ∧ lyX x g h ∧ h.1 57 x = bI true ∧ h.1 56 x = nI (bS (eF P x) (pm P))) (pm P) (fun e s he hI => by
      obtain ⟨i1, i2, i3, i4⟩ := hI
      obtain ⟨s1, s2⟩ := s
      dsimp only at i1 i2 i3 i4
      have hM2 := mP_fr (K := kLy) ⟨rfl, rfl, rfl, rfl, rfl, rfl⟩ i2.1 hM
      dsimp only [wX11_lays_77]
      rw [i1, hM2.2.1, if_neg (by rw [nN_le (by omega) (by omega)]; omega), zchk_t (zin_nI hx (by omega)), nI_cl (by omega), i3, if_neg (fun q => absurd ((bI_0 true).mp q) (by decide)), m_lays99 hO hM2 hx he i4]
      refine ⟨_, rfl, rfl, lyX_tr i2 (lyX_56 x _ _), ?_, zi_at _ _ _ _⟩
      dsimp only
      rw [zi_cell _ _ (by decide)]
      exact i3) (fun s hI => by
      obtain ⟨i1, i2, i3, i4⟩ := hI
      obtain ⟨s1, s2⟩ := s
      dsimp only at i1 i2 i3 i4
      have hM2 := mP_fr (K := kLy) ⟨rfl, rfl, rfl, rfl, rfl, rfl⟩ i2.1 hM
      dsimp only [wX11_lays_77]
      rw [i1, hM2.2.1, if_pos (Int32.le_refl _), nI_s]
      exact ⟨_, rfl, _, rfl, i2, i3, i4⟩) (s := ((0 : Int32), g)) ⟨rfl, hrefl, by rw [h7, hf], h6⟩
    refine ⟨h, by rw [w, q1], q2, q3, ?_⟩
    rw [q4]
    unfold fsM
    rw [hf, if_pos rfl, fs_eF]
theorem m_lays23 (hO : pOK P) (hM : mP P g) {x : Nat} (hx : x < 3125) (h7 : g.1 57 x = 1) : ∃ h, wh (wX11_lays_23 (nI x)) ((0 : Int32), g) = some (.inl (nI (x + 1), h)) ∧ lyX x g h ∧ h.1 57 x = bI (isF5 P x) ∧ h.1 56 x = nI (fsM P x) := by
  have h5 := hO.1
  have n0 : vp_nar .boolean (0 : Int32) = bI false := by decide
  have n1 : vp_nar .boolean (1 : Int32) = bI true := by decide
  obtain ⟨r, w, h, q1, q2, q3, q4⟩ := wh_up (step := wX11_lays_23 (nI x)) (fun f (s : Int32 × zS) => s.1 = nI f ∧ lyX x g s.2 ∧ s.2.1 57 x = bI (alB (fun f => decide (vo x f < mq P f)) f)) (fun r => ∃ h : zS, r = Sum.inl (nI (x + 1), h) ∧ lyX x g h ∧ h.1 57 x = bI (isF5 P x) ∧ h.1 56 x = nI (fsM P x)) 5 (fun f s hf hI => by
    obtain ⟨i1, i2, i3⟩ := hI
    obtain ⟨s1, s2⟩ := s
    dsimp only at i1 i2 i3
    have hM2 := mP_fr (K := kLy) ⟨rfl, rfl, rfl, rfl, rfl, rfl⟩ i2.1 hM
    have hv := vo_lt x f
    have hq := mq_le hO f
    dsimp only [wX11_lays_23]
    rw [i1, if_neg (by rw [show (5 : Int32) = nI 5 from rfl, nN_le (by omega) (by omega)]; omega), zchk_t (zin_nI hx (by omega)), nI_cl (by omega), i3, alB_s]
    cases ha : alB (fun f => decide (vo x f < mq P f)) f with
    | false =>
      rw [if_pos ((bI_0 false).mpr rfl), zchk_t (zin_nI hx (by omega)), nI_s, n0, Bool.false_and]
      exact ⟨_, rfl, rfl, lyX_tr i2 (lyX_57 x _ _), zi_at _ _ _ _⟩
    | true =>
      rw [if_neg (fun q => absurd ((bI_0 true).mp q) (by decide)), m_valueOf hM2 (by omega) hf, Option.bind_some, m_manyOf hO hM2 hf, Option.bind_some, Bool.true_and]
      by_cases c : vo x f < mq P f
      · rw [if_neg (by rw [nN_le (by omega) (by omega)]; omega), zchk_t (zin_nI hx (by omega)), nI_s, n1, decide_eq_true c]
        exact ⟨_, rfl, rfl, lyX_tr i2 (lyX_57 x _ _), zi_at _ _ _ _⟩
      · rw [if_pos (by rw [nN_le (by omega) (by omega)]; omega), zchk_t (zin_nI hx (by omega)), nI_s, n0, decide_eq_false c]
        exact ⟨_, rfl, rfl, lyX_tr i2 (lyX_57 x _ _), zi_at _ _ _ _⟩) (fun s hI => by
    obtain ⟨i1, i2, i3⟩ := hI
    obtain ⟨s1, s2⟩ := s
    dsimp only at i1 i2 i3
    have hM2 := mP_fr (K := kLy) ⟨rfl, rfl, rfl, rfl, rfl, rfl⟩ i2.1 hM
    dsimp only [wX11_lays_23]
    rw [i1, if_pos (show (5 : Int32) ≤ nI 5 from Int32.le_refl _), zchk_t (zin_nI hx (by omega)), nI_cl (by omega)]
    have l3 := lyX_56 x s2 0
    have v6 : (zi s2 56 x 0).1 56 x = 0 := zi_at _ _ _ _
    have v7 : (zi s2 56 x 0).1 57 x = bI (isF5 P x) := by rw [zi_cell _ _ (by decide)]; exact i3
    generalize zi s2 56 x 0 = s3 at *
    obtain ⟨h, w, a1, a2, a3⟩ := m_lays77 hO (mP_fr (K := kLy) ⟨rfl, rfl, rfl, rfl, rfl, rfl⟩ l3.1 hM2) hx v7 v6
    rw [w]
    exact ⟨_, rfl, h, rfl, lyX_tr i2 (lyX_tr l3 a1), a2, a3⟩) (s := ((0 : Int32), g)) ⟨rfl, ⟨fr_rfl _ _, fun _ _ => ⟨rfl, rfl⟩⟩, h7⟩
  exact ⟨h, by rw [w, q1], q2, q3, q4⟩
theorem m_lays (hO : pOK P) (hM : mP P g) : ∃ h, nX11_lays g = some h ∧ mF P h ∧ fr kLy (zi g 42 29 (-1)) h := by
  have hM0 : mP P (zi g 42 29 (-1)) := by
    unfold mP at hM ⊢
    rw [zi_else (c := 42) (k := 29) (i := 16) g (-1) (by decide), zi_else (c := 42) (k := 29) (i := 17) g (-1) (by decide), zi_else (c := 42) (k := 29) (i := 19) g (-1) (by decide), zi_cell g (-1) (show 51 ≠ 42 by decide), zi_cell g (-1) (show 52 ≠ 42 by decide), zi_cell g (-1) (show 53 ≠ 42 by decide), zi_cell g (-1) (show 54 ≠ 42 by decide), zi_cell g (-1) (show 58 ≠ 42 by decide)]
    exact hM
  unfold nX11_lays
  generalize zi g 42 29 (-1) = g0 at *
  have n1 : vp_nar .boolean (1 : Int32) = 1 := by decide
  refine wh_up (fun x (s : Int32 × zS) => s.1 = nI x ∧ fr kLy g0 s.2 ∧ ∀ y, y < x → s.2.1 57 y = bI (isF5 P y) ∧ s.2.1 56 y = nI (fsM P y)) _ 3125 (fun x s hx hI => ?_) (fun s hI => ?_) ⟨rfl, fr_rfl _ _, fun y hy => absurd hy (Nat.not_lt_zero y)⟩
  · obtain ⟨i1, i2, i3⟩ := hI
    obtain ⟨s1, s2⟩ := s
    dsimp only at i1 i2 i3
    have hM2 := mP_fr (K := kLy) ⟨rfl, rfl, rfl, rfl, rfl, rfl⟩ i2 hM0
    dsimp only [wX11_lays_7]
    rw [i1, if_neg (by rw [show (3125 : Int32) = nI 3125 from rfl, nN_le (by omega) (by omega)]; omega), zchk_t (zin_nI hx (by omega)), nI_cl (by omega), n1]
    have l3 := lyX_57 x s2 1
    have v7 : (zi s2 57 x 1).1 57 x = 1 := zi_at _ _ _ _
    generalize zi s2 57 x 1 = s3 at *
    obtain ⟨h, w, a1, a2, a3⟩ := m_lays23 hO (mP_fr (K := kLy) ⟨rfl, rfl, rfl, rfl, rfl, rfl⟩ l3.1 hM2) hx v7
    rw [w]
    have l4 := lyX_tr l3 a1
    refine ⟨_, rfl, rfl, fr_tr i2 l4.1, fun y hy => ?_⟩
    dsimp only
    by_cases q : y = x
    · rw [q]; exact ⟨a2, a3⟩
    · rw [(l4.2 y q).1, (l4.2 y q).2]; exact i3 y (by omega)
  · obtain ⟨i1, i2, i3⟩ := hI
    obtain ⟨s1, s2⟩ := s
    dsimp only at i1 i2 i3
    dsimp only [wX11_lays_7]
    rw [i1, if_pos (show (3125 : Int32) ≤ nI 3125 from Int32.le_refl _)]
    exact ⟨_, rfl, i3, i2⟩
end Mq
