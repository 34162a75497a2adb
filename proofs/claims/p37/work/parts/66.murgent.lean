
/-! ===== the reference: urgent rows ===== -/
section Ur
variable {P : zPl} {g : zS} {N : Nat} {r : Nat → Nat}
/-- the reference's weight of a row's least set -/
def mwr (P : zPl) (c : Nat) : Nat := if rgt P c then wSum P 0 (pn P) else if ls P c = 99 then 1000000000 else wSum P (ls P c) (pn P)
def mfl (P : zPl) (c : Nat) : Nat := pcn (lft P c 0 (pn P))
theorem mwr_le (hO : pOK P) (c : Nat) : mwr P c ≤ 1000000000 := by
  have h5 := hO.1
  unfold mwr
  split
  · have := wSum_le hO 0 (pn P) (Nat.le_refl _); omega
  · split
    · omega
    · have := wSum_le hO (ls P c) (pn P) (Nat.le_refl _); omega
/-- a row is more urgent than another one -/
def ahB (P : zPl) (r : Nat → Nat) (o i : Nat) : Bool := if mfl P (r o) = mfl P (r i) then (if mwr P (r o) = mwr P (r i) then decide (o < i) else decide (mwr P (r i) < mwr P (r o))) else decide (mfl P (r i) < mfl P (r o))
theorem m_isAhead (hO : pOK P) (hN : N ≤ 40) (h4 : ∀ k, k < N → g.1 64 k = nI (mfl P (r k)) ∧ g.1 65 k = nI (mwr P (r k))) {o i : Nat} (ho : o < N) (hi : i < N) : nX11_isAhead (nI o) (nI i) g = some (if ahB P r o i then 1 else 0) := by
  have p1 := pcn_le (lft P (r o) 0 (pn P))
  have p2 := pcn_le (lft P (r i) 0 (pn P))
  have w1 := mwr_le hO (r o)
  have w2 := mwr_le hO (r i)
  have e1 : mfl P (r o) ≤ 6 := p1
  have e2 : mfl P (r i) ≤ 6 := p2
  unfold nX11_isAhead ahB
  have zo : ∀ {A : Type} (t : Option A), zchk (zin (nI o) 40) t = t := fun t => zchk_t (zin_nI (by omega) (by omega))
  have zi' : ∀ {A : Type} (t : Option A), zchk (zin (nI i) 40) t = t := fun t => zchk_t (zin_nI (by omega) (by omega))
  rw [zo, zi', zo, zi', zo, zi', zo, zi', nI_cl (by omega), nI_cl (by omega), (h4 o ho).1, (h4 o ho).2, (h4 i hi).1, (h4 i hi).2]
  by_cases c1 : mfl P (r o) = mfl P (r i)
  · rw [if_pos (by rw [c1]), if_pos c1]
    by_cases c2 : mwr P (r o) = mwr P (r i)
    · rw [if_pos (by rw [c2]), if_pos c2]
      by_cases c3 : o < i
      · rw [if_neg (by rw [nN_le (by omega) (by omega)]; omega), decide_eq_true c3]; rfl
      · rw [if_pos (by rw [nN_le (by omega) (by omega)]; omega), decide_eq_false c3]; rfl
    · rw [if_neg (fun q => c2 ((nN_eq (by omega) (by omega)).mp q)), if_neg c2]
      by_cases c3 : mwr P (r i) < mwr P (r o)
      · rw [if_neg (by rw [nN_le (by omega) (by omega)]; omega), decide_eq_true c3]; rfl
      · rw [if_pos (by rw [nN_le (by omega) (by omega)]; omega), decide_eq_false c3]; rfl
  · rw [if_neg (fun q => c1 ((nN_eq (by omega) (by omega)).mp q)), if_neg c1]
    by_cases c3 : mfl P (r i) < mfl P (r o)
    · rw [if_neg (by rw [nN_le (by omega) (by omega)]; omega), decide_eq_true c3]; rfl
    · rw [if_pos (by rw [nN_le (by omega) (by omega)]; omega), decide_eq_false c3]; rfl
/-- the class ranks rows as the reference does -/
theorem rk_ah (hO : pOK P) {o i : Nat} (hi : rgt P (r i) = false) : rkB (fun k => urg P (r k)) i o = (!(o == i) && (!rgt P (r o) && ahB P r o i)) := by
  have h5 := hO.1
  have l1 := lw_le hO (r o)
  have l2 := lw_le hO (r i)
  have w1 := wSum_le hO (ls P (r o)) (pn P) (Nat.le_refl _)
  have w2 := wSum_le hO (ls P (r i)) (pn P) (Nat.le_refl _)
  have u2 : urg P (r i) = mfl P (r i) * 64 + (if lw P (r i) = 999 then 63 else lw P (r i)) + 1 := by
    unfold urg
    rw [hi, if_neg (by decide)]
    rfl
  have m2 : (lw P (r i) = 999 ∧ mwr P (r i) = 1000000000) ∨ (lw P (r i) ≠ 999 ∧ mwr P (r i) = lw P (r i) ∧ lw P (r i) ≤ 45) := by
    unfold mwr lw
    rw [hi, if_neg (show ¬ false = true by decide)]
    by_cases q : ls P (r i) = 99
    · rw [if_pos q, if_pos q]; exact Or.inl ⟨rfl, rfl⟩
    · rw [if_neg q, if_neg q]; exact Or.inr ⟨by omega, rfl, by omega⟩
  show (decide (urg P (r i) < urg P (r o)) || (decide (o < i) && urg P (r o) == urg P (r i))) = _
  by_cases hoi : o = i
  · subst hoi
    rw [decide_eq_false (Nat.lt_irrefl _), decide_eq_false (Nat.lt_irrefl _), beq_self_eq_true o]
    rfl
  · rw [show (o == i) = false by simp [hoi], Bool.not_false, Bool.true_and]
    cases ho : rgt P (r o) with
    | true =>
      have u1 : urg P (r o) = 0 := by unfold urg; rw [ho, if_pos rfl]
      rw [u1, Bool.not_true, Bool.false_and, decide_eq_false (Nat.not_lt_zero _), Bool.false_or, show (0 == urg P (r i)) = false by rw [beq_eq_false_iff_ne]; omega, Bool.and_false]
    | false =>
      have u1 : urg P (r o) = mfl P (r o) * 64 + (if lw P (r o) = 999 then 63 else lw P (r o)) + 1 := by
        unfold urg
        rw [ho, if_neg (by decide)]
        rfl
      have m1 : (lw P (r o) = 999 ∧ mwr P (r o) = 1000000000) ∨ (lw P (r o) ≠ 999 ∧ mwr P (r o) = lw P (r o) ∧ lw P (r o) ≤ 45) := by
        unfold mwr lw
        rw [ho, if_neg (show ¬ false = true by decide)]
        by_cases q : ls P (r o) = 99
        · rw [if_pos q, if_pos q]; exact Or.inl ⟨rfl, rfl⟩
        · rw [if_neg q, if_neg q]; exact Or.inr ⟨by omega, rfl, by omega⟩
      rw [Bool.not_false, Bool.true_and]
      have e : (urg P (r i) < urg P (r o) ∨ (o < i ∧ urg P (r o) = urg P (r i))) ↔ ahB P r o i = true := by
        unfold ahB
        rw [u1, u2]
        by_cases c1 : mfl P (r o) = mfl P (r i)
        · rw [if_pos c1]
          by_cases c2 : mwr P (r o) = mwr P (r i)
          · rw [if_pos c2, decide_eq_true_eq]
            rcases m1 with ⟨a1, a2⟩ | ⟨a1, a2, a3⟩ <;> rcases m2 with ⟨b1, b2⟩ | ⟨b1, b2, b3⟩
            · rw [if_pos a1, if_pos b1]; omega
            · omega
            · omega
            · rw [if_neg a1, if_neg b1]; omega
          · rw [if_neg c2, decide_eq_true_eq]
            rcases m1 with ⟨a1, a2⟩ | ⟨a1, a2, a3⟩ <;> rcases m2 with ⟨b1, b2⟩ | ⟨b1, b2, b3⟩
            · omega
            · rw [if_pos a1, if_neg b1]; omega
            · rw [if_neg a1, if_pos b1]; omega
            · rw [if_neg a1, if_neg b1]; omega
        · rw [if_neg c1, decide_eq_true_eq]
          have x1 : (if lw P (r o) = 999 then 63 else lw P (r o)) ≤ 63 := by
            rcases m1 with ⟨a1, a2⟩ | ⟨a1, a2, a3⟩
            · rw [if_pos a1]; omega
            · rw [if_neg a1]; omega
          have x2 : (if lw P (r i) = 999 then 63 else lw P (r i)) ≤ 63 := by
            rcases m2 with ⟨a1, a2⟩ | ⟨a1, a2, a3⟩
            · rw [if_pos a1]; omega
            · rw [if_neg a1]; omega
          omega
      rw [Bool.eq_iff_iff, Bool.or_eq_true, decide_eq_true_eq, Bool.and_eq_true, decide_eq_true_eq, beq_iff_eq]
      exact e
theorem m_urg32 (hO : pOK P) (hM : mP P g) (hR : mR P N r g) {i : Nat} (hi : i < N) {s0 : Int32} {w : Nat} (hw : w ≤ 1000000000) (hs : (s0 = -1 ∧ w = 1000000000) ∨ ∃ S, S < 32 ∧ s0 = nI S ∧ w = wSum P S (pn P)) (K : Int32) : jX11_urgent_32 K (nI i) s0 g = some (.inl (nI (i + 1), zi (zi g 64 i (nI (mfl P (r i)))) 65 i (nI w))) := by
  have hN := hR.2.1
  have h6 := p2m hO
  have hl := lft_lt P (r i) 0 (pn P)
  have h64 : ∀ v, sc g (zi g 64 i v) := fun v => sc_zc (c := 64) (fun _ => rfl) g i v
  unfold jX11_urgent_32
  rw [m_failsOf hO hM hR hi, Option.bind_some, m_bits (by omega), Option.bind_some, zchk_t (zin_nI (by omega) (by omega)), nI_s, nI_cl (by omega)]
  rcases hs with ⟨rfl, rfl⟩ | ⟨S, hS, rfl, rfl⟩
  · rw [if_pos rfl, zchk_t (zin_nI (by omega) (by omega))]
    rfl
  · rw [if_neg (show ¬ nI S = -1 from fun q => by rw [nI_m1, nN_eqm (by omega)] at q; exact q), m_weightOf hO (mP_sc (h64 _) hM) (by omega), Option.bind_some, zchk_t (zin_nI (by omega) (by omega))]
    rfl
theorem m_urgent (hO : pOK P) (hM : mP P g) (hF : mF P g) (hR : mR P N r g) (K : Int32) : ∃ h, nX11_urgent K g = some (if fstB (urB P N r K) N < N then nI (fstB (urB P N r K) N) else -1, h) ∧ sc g h ∧ h.1 42 0 = 0 := by
  have h5 := hO.1
  have h7 := p2n hO
  have hN := hR.2.1
  unfold nX11_urgent
  have hz0 : sc g (zi g 42 0 0) := sc_zi rfl g 0
  have z00 : (zi g 42 0 0).1 42 0 = 0 := zi_at _ _ _ _
  generalize zi g 42 0 0 = z at hz0 z00
  obtain ⟨⟨r1, r2⟩, w, q1, q2, q3⟩ := wh_up (step := wX11_urgent_7 K) (fun i (s : Int32 × zS) => s.1 = nI i ∧ sc g s.2 ∧ s.2.1 42 0 = 0 ∧ ∀ k, k < i → s.2.1 64 k = nI (mfl P (r k)) ∧ s.2.1 65 k = nI (mwr P (r k))) (fun r' : Int32 × zS => r'.1 = (if fstB (urB P N r K) N < N then nI (fstB (urB P N r K) N) else -1) ∧ sc g r'.2 ∧ r'.2.1 42 0 = 0) N (fun i s hi hI => by
    obtain ⟨i1, i2, i3, i4⟩ := hI
    obtain ⟨s1, s2⟩ := s
    dsimp only at i1 i2 i3 i4
    have hM2 := mP_sc i2 hM
    have hF2 := mF_sc i2 hF
    have hR2 := mR_sc i2 hR
    dsimp only [wX11_urgent_7]
    rw [i1, hR2.1, if_neg (by rw [nN_le (by omega) (by omega)]; omega), m_passesRow hO hM2 hF2 hR2 hi, Option.bind_some]
    have fin : ∀ {u : zS} {s0 : Int32}, sc g u → u.1 42 0 = 0 → (∀ k, k < i → u.1 64 k = nI (mfl P (r k)) ∧ u.1 65 k = nI (mwr P (r k))) → ((s0 = -1 ∧ mwr P (r i) = 1000000000) ∨ ∃ S, S < 32 ∧ s0 = nI S ∧ mwr P (r i) = wSum P S (pn P)) → ∃ s', jX11_urgent_32 K (nI i) s0 u = some (.inl s') ∧ s'.1 = nI (i + 1) ∧ sc g s'.2 ∧ s'.2.1 42 0 = 0 ∧ ∀ k, k < i + 1 → s'.2.1 64 k = nI (mfl P (r k)) ∧ s'.2.1 65 k = nI (mwr P (r k)) := fun {u s0} a1 a2 a3 a4 => by
      refine ⟨_, m_urg32 hO (mP_sc a1 hM) (mR_sc a1 hR) hi (mwr_le hO (r i)) a4 K, rfl, sc_tr a1 (sc_tr (sc_zc (c := 64) (fun _ => rfl) _ _ _) (sc_zc (c := 65) (fun _ => rfl) _ _ _)), ?_, fun k hk => ?_⟩
      · rw [zi_cell _ _ (show 42 ≠ 65 by decide), zi_cell _ _ (show 42 ≠ 64 by decide)]; exact a2
      · rw [zi_cell _ _ (show 64 ≠ 65 by decide)]
        by_cases q : k = i
        · rw [q, zi_at, zi_at]; exact ⟨rfl, rfl⟩
        · rw [zi_else _ _ (fun e => q e.2), zi_else _ _ (fun e => q e.2), zi_cell _ _ (show 65 ≠ 64 by decide)]
          exact a3 k (by omega)
    cases hrg : rgt P (r i) with
    | true =>
      rw [if_neg (show ¬ (if true = true then (1 : Int32) else 0) = 0 by decide)]
      exact fin i2 i3 i4 (Or.inr ⟨0, by omega, rfl, by unfold mwr; rw [hrg, if_pos rfl]⟩)
    | false =>
      rw [if_pos (show (if false = true then (1 : Int32) else 0) = 0 by decide), m_lightest hO hM2 hF2 hR2 hi, Option.bind_some]
      refine fin (sc_tr i2 (sc_zi rfl _ _)) (by rw [zi_else _ _ (by decide)]; exact i3) (fun k hk => by rw [zi_cell _ _ (show 64 ≠ 42 by decide), zi_cell _ _ (show 65 ≠ 42 by decide)]; exact i4 k hk) ?_
      unfold mwr
      rw [hrg, if_neg (by decide)]
      rcases ls_spec hO (r i) with ⟨q1, _⟩ | ⟨q1, _⟩
      · rw [q1, if_pos rfl]; exact Or.inl ⟨rfl, rfl⟩
      · rw [if_neg (show ¬ ls P (r i) = 99 by omega)]
        exact Or.inr ⟨ls P (r i), by omega, if_neg (by omega), rfl⟩) (fun s hI => by
    obtain ⟨i1, i2, i3, i4⟩ := hI
    obtain ⟨s1, s2⟩ := s
    dsimp only at i1 i2 i3 i4
    have hM2 := mP_sc i2 hM
    have hF2 := mF_sc i2 hF
    have hR2 := mR_sc i2 hR
    dsimp only [wX11_urgent_7]
    rw [i1, hR2.1, if_pos (Int32.le_refl _)]
    have hin : ∀ i, i < N → rgt P (r i) = false → wh (wX11_urgent_101 K (nI i) s2) ((0 : Int32), (0 : Int32)) = some (if nI (cnt (rkB (fun k => urg P (r k)) i) N) = K then .inr (nI i, s2) else .inl (nI (i + 1))) := fun i hi hrg => by
      have hcl := cnt_le (rkB (fun k => urg P (r k)) i) N
      refine wh_seq (fun j => (nI (cnt (rkB (fun k => urg P (r k)) i) j), nI j)) N (fun j hj => ?_) ?_
      · dsimp only [wX11_urgent_101]
        rw [hR2.1, if_neg (by rw [nN_le (by omega) (by omega)]; omega), nI_s, cnt_s, rk_ah hO hrg]
        by_cases hji : j = i
        · rw [if_pos (by rw [hji]), show (j == i) = true by simp [hji], Bool.not_true, Bool.false_and, if_neg (by decide), Int32.add_zero]
        · rw [if_neg (fun q => hji ((nN_eq (by omega) (by omega)).mp q)), show (j == i) = false by simp [hji], Bool.not_false, Bool.true_and, m_passesRow hO hM2 hF2 hR2 hj, Option.bind_some]
          cases rgt P (r j) with
          | true => rw [if_neg (show ¬ (if true = true then (1 : Int32) else 0) = 0 by decide), Int32.add_zero]; rfl
          | false =>
            rw [if_pos (show (if false = true then (1 : Int32) else 0) = 0 by decide), m_isAhead hO hN i4 hj hi, Option.bind_some, Bool.not_false, Bool.true_and]
            cases ahB P r j i with
            | true => rw [if_neg (show ¬ (if true = true then (1 : Int32) else 0) = 0 by decide), nI_s, if_pos rfl]
            | false => rw [if_pos (show (if false = true then (1 : Int32) else 0) = 0 by decide), Int32.add_zero, if_neg (by decide)]
      · dsimp only [wX11_urgent_101]
        rw [hR2.1, if_pos (Int32.le_refl _), nI_s]
        split <;> rfl
    have key := wh_fst (step := wX11_urgent_77 K s2) (urB P N r K) (fun i => nI i) N (fun i => (nI i, s2)) (-1, s2) (fun i hi hp => by
      dsimp only [wX11_urgent_77]
      rw [hR2.1, if_neg (by rw [nN_le (by omega) (by omega)]; omega), m_passesRow hO hM2 hF2 hR2 hi, Option.bind_some, nI_s]
      cases hrg : rgt P (r i) with
      | true => rw [if_neg (show ¬ (if true = true then (1 : Int32) else 0) = 0 by decide)]
      | false =>
        rw [if_pos (show (if false = true then (1 : Int32) else 0) = 0 by decide), hin i hi hrg, if_neg]
        intro q
        unfold urB at hp
        rw [decide_eq_true q, Bool.and_true] at hp
        have : urg P (r i) ≠ 0 := by unfold urg; rw [hrg, if_neg (by decide)]; omega
        simp [this] at hp) (fun i hi hp => by
      unfold urB at hp
      rw [Bool.and_eq_true, decide_eq_true_eq, bne_iff_ne] at hp
      have hrg : rgt P (r i) = false := by
        cases q : rgt P (r i) with
        | false => rfl
        | true => exact absurd (by unfold urg; rw [q, if_pos rfl]) hp.1
      dsimp only [wX11_urgent_77]
      rw [hR2.1, if_neg (by rw [nN_le (by omega) (by omega)]; omega), m_passesRow hO hM2 hF2 hR2 hi, Option.bind_some, hrg, if_pos (show (if false = true then (1 : Int32) else 0) = 0 by decide), hin i hi hrg, if_pos hp.2]) (by
      dsimp only [wX11_urgent_77]
      rw [hR2.1, if_pos (Int32.le_refl _)]
      rfl)
    rw [show (0 : Int32) = nI 0 from rfl, key]
    refine ⟨_, rfl, ?_, ?_, ?_⟩
    · split <;> rfl
    · split <;> exact i2
    · split <;> exact i3) (s := ((0 : Int32), z)) ⟨rfl, hz0, z00, fun k hk => absurd hk (Nat.not_lt_zero k)⟩
  dsimp only at q1 q2 q3
  subst q1
  exact ⟨r2, w, q2, q3⟩
end Ur
