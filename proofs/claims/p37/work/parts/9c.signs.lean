
/-! ===== read: signs and digits; the reference's words ===== -/
section Sg
variable {g h k : zS} {tn : Nat} {tb : Nat → Nat} {s p : Nat}
theorem isBl_ff {c : Nat} (h : isBl c = false) : c ≠ 9 ∧ c ≠ 10 ∧ c ≠ 32 := by
  unfold isBl at h
  rw [Bool.or_eq_false_iff, Bool.or_eq_false_iff, beq_eq_false_iff_ne, beq_eq_false_iff_ne, beq_eq_false_iff_ne] at h
  omega
theorem isLt_ff {c : Nat} (h : isLt c = false) : c < 97 ∨ 122 < c := by
  unfold isLt at h
  rw [Bool.and_eq_false_iff, decide_eq_false_iff_not, decide_eq_false_iff_not] at h
  omega
def wT2 (c k : Nat) : Prop := c = 19 ∧ (k = 2 ∨ k = 3)
theorem e_isSign (hA : tkA tn tb s g) (x : Int32) : nX7_isSign x g = some (if chr tn tb s = x then 1 else 0) := by
  obtain ⟨hT, hs, h2, h3⟩ := hA
  have t2 := hT.2.1
  unfold nX7_isSign
  rw [h2, e_at hT s (by omega), Option.bind_some]
  by_cases q : chr tn tb s = x
  · rw [if_pos q, if_pos q]
  · rw [if_neg q, if_neg q]
theorem e_nextA (hA : tkA tn tb s g) : ∃ h, nX7_next g = some h ∧ tkA tn tb (sk tn tb (te tn tb s)) h ∧ mw wT2 g h := by
  obtain ⟨hT, hs, h2, h3⟩ := hA
  exact e_next (te_le hs).2.1 hT h3
theorem e_takes (hA : tkA tn tb s g) (x : Int32) : (chr tn tb s = x → ∃ h, nX7_takes x g = some (1, h) ∧ tkA tn tb (sk tn tb (te tn tb s)) h ∧ mw wT2 g h) ∧ (chr tn tb s ≠ x → nX7_takes x g = some (0, g)) := by
  unfold nX7_takes
  rw [e_isSign hA, Option.bind_some]
  constructor
  · intro q
    obtain ⟨h, w, a⟩ := e_nextA hA
    rw [if_pos q, if_neg n01, w, Option.bind_some]
    exact ⟨h, rfl, a⟩
  · intro q
    rw [if_neg q, if_pos rfl]
/-- a digit of a range stands alone -/
def dgO (tn : Nat) (tb : Nat → Nat) (s lo hi : Nat) : Prop := te tn tb s - s = 1 ∧ s < tn ∧ 48 + lo ≤ tb s ∧ tb s ≤ 48 + hi
theorem dg_sub {c : Nat} (h : 48 ≤ c) (h2 : c < 256) : nI c - (48 : Int32) = nI (c - 48) := nI_sub (b := 48) h
theorem dg_lt {c : Nat} (h : c < 48) : nI c - (48 : Int32) < 0 := by
  have : ∀ c, c < 48 → nI c - (48 : Int32) < 0 := by decide
  exact this c h
theorem e_takeNumber (hA : tkA tn tb s g) {lo hi : Nat} (hlo : lo ≤ 9) (hhi : hi ≤ 9) : (dgO tn tb s lo hi → ∃ h, nX7_takeNumber (nI lo) (nI hi) g = some (nI (tb s - 48), h) ∧ tkA tn tb (sk tn tb (te tn tb s)) h ∧ mw wT2 g h) ∧ (¬ dgO tn tb s lo hi → nX7_takeNumber (nI lo) (nI hi) g = some (-1, g)) := by
  obtain ⟨hT, hs, h2, h3⟩ := id hA
  have t2 := hT.2.1
  have hte := te_le (tb := tb) hs
  have hsb : nI (te tn tb s) - nI s = nI (te tn tb s - s) := nI_sub (by omega)
  unfold nX7_takeNumber
  rw [h2, e_at hT s (by omega), Option.bind_some, h3, hsb]
  constructor
  · rintro ⟨q1, q2, q3, q4⟩
    obtain ⟨h, w, a⟩ := e_nextA hA
    have h256 := chr_lt hT q2
    rw [if_pos (by rw [q1]; rfl), chr_in q2, dg_sub (by omega) h256, if_neg (fun e => by rw [nN_lt (by omega) (by omega)] at e; omega), if_pos ((nN_le (by omega) (by omega)).mpr (by omega)), w, Option.bind_some]
    exact ⟨h, rfl, a⟩
  · intro q
    by_cases q1 : te tn tb s - s = 1
    · have q2 : s < tn := by omega
      have h256 := chr_lt hT q2
      rw [if_pos (by rw [q1]; rfl), chr_in q2]
      by_cases q3 : 48 ≤ tb s
      · rw [dg_sub q3 h256]
        by_cases q4 : tb s - 48 < lo
        · rw [if_pos ((nN_lt (by omega) (by omega)).mpr q4)]
        · rw [if_neg (fun e => q4 ((nN_lt (by omega) (by omega)).mp e)), if_neg (fun e => by
            rw [nN_le (by omega) (by omega)] at e
            exact q ⟨q1, q2, by omega, by omega⟩)]
      · rw [if_pos (Int32.lt_of_lt_of_le (dg_lt (by omega)) (show (0 : Int32) ≤ nI lo from (nN_le (a := 0) (by omega) (by omega)).mpr (Nat.zero_le _)))]
    · rw [if_neg (show ¬ nI (te tn tb s - s) = (1 : Int32) from fun e => q1 ((nN_eq (b := 1) (by omega) (by omega)).mp e))]
/-- the reference's text; it stands at p -/
def rdT (tn : Nat) (tb : Nat → Nat) (g : zS) : Prop := g.1 42 3 = nI tn ∧ (∀ k, k < tn → g.1 43 k = nI (tb k)) ∧ tn ≤ 400 ∧ ∀ k, k < tn → tb k < 256
def rdX (tn : Nat) (tb : Nat → Nat) (p : Nat) (g : zS) : Prop := rdT tn tb g ∧ g.1 42 4 = nI p ∧ p ≤ tn ∧ True
def wP4 (c k : Nat) : Prop := c = 42 ∧ k = 4
theorem rdT_mw {W : Nat → Nat → Prop} (q : ∀ c k, W c k → c ≠ 43 ∧ (c = 42 → k ≠ 3)) (a : mw W g h) (t : rdT tn tb g) : rdT tn tb h := ⟨by rw [a.1 42 3 (fun w => (q _ _ w).2 rfl rfl)]; exact t.1, fun k hk => by rw [a.1 43 k (fun w => (q _ _ w).1 rfl)]; exact t.2.1 k hk, t.2.2⟩
theorem rdX_mv {q : Nat} (hX : rdX tn tb p g) (hq : q ≤ tn) : rdX tn tb q (zi g 42 4 (nI q)) := ⟨rdT_mw (W := wP4) (fun c k q => by unfold wP4 at q; omega) (mw_zi ⟨rfl, rfl⟩ _ _) hX.1, zi_at _ _ _ _, hq, trivial⟩
theorem m_here66 (hX : rdX tn tb p g) : jX11_here_66 g = some (chr tn tb p, g) := by
  obtain ⟨⟨t1, t2, t3, t4⟩, h4, hp, _⟩ := hX
  unfold jX11_here_66 chr
  rw [t1, h4]
  by_cases c : p < tn
  · rw [if_neg (fun q => by rw [nN_le (by omega) (by omega)] at q; omega), zchk_t (zin_nI (by omega) (by omega)), nI_cl (by omega), t2 p c, if_pos c]
  · rw [if_pos ((nN_le (by omega) (by omega)).mpr (by omega)), if_neg c]
theorem m_here (hX : rdX tn tb p g) : ∃ h, nX11_here g = some (chr tn tb (sk tn tb p), h) ∧ rdX tn tb (sk tn tb p) h ∧ mw wP4 g h := by
  have hl := rn_le (tn := tn) (tb := tb) isBl p
  have hp := hX.2.2.1
  have ht := hX.1.2.2
  unfold nX11_here
  obtain ⟨r, w, e1, e2, e3⟩ := wh_up (step := wX11_here_0) (fun j s => rdX tn tb (p + j) s ∧ mw wP4 g s) (fun r : Int32 × zS => r.1 = chr tn tb (sk tn tb p) ∧ rdX tn tb (sk tn tb p) r.2 ∧ mw wP4 g r.2) (rn tn tb isBl p) (fun j s hj hI => by
    obtain ⟨a1, a2⟩ := hI
    obtain ⟨⟨t1, t2, t3, t4⟩, h4, hpj, _⟩ := id a1
    have hin : p + j < tn := by omega
    have hb := rn_in hj
    have h256 := t4 _ hin
    have fin : ∃ s', some (.inl (zi s 42 4 (s.1 42 4 + 1)) : zS ⊕ (Int32 × zS)) = some (.inl s') ∧ rdX tn tb (p + (j + 1)) s' ∧ mw wP4 g s' := by
      rw [h4, nI_s]
      exact ⟨_, rfl, rdX_mv a1 (by omega), mw_tr a2 (mw_zi ⟨rfl, rfl⟩ _ _)⟩
    unfold wX11_here_0
    rw [if_neg (fun q => by rw [t1, h4, nN_le (by omega) (by omega)] at q; omega)]
    simp only [show zin (s.1 42 4) 400 = true from by rw [h4]; exact zin_nI (by omega) (by omega), zchk_t]
    rw [show s.1 43 (s.1 42 4).toNatClampNeg = nI (tb (p + j)) from by rw [h4, nI_cl (by omega)]; exact t2 _ hin]
    unfold isBl at hb
    rw [Bool.or_eq_true, Bool.or_eq_true, beq_iff_eq, beq_iff_eq, beq_iff_eq] at hb
    by_cases c1 : tb (p + j) = 32
    · rw [if_pos (by rw [c1]; rfl)]; exact fin
    · rw [if_neg (show ¬ nI (tb (p + j)) = (32 : Int32) from fun e => c1 ((nN_eq (b := 32) (by omega) (by omega)).mp e))]
      by_cases c2 : tb (p + j) = 9
      · rw [if_pos (by rw [c2]; rfl)]; exact fin
      · rw [if_neg (show ¬ nI (tb (p + j)) = (9 : Int32) from fun e => c2 ((nN_eq (b := 9) (by omega) (by omega)).mp e)), if_pos (by rw [show tb (p + j) = 10 by omega]; rfl)]
        exact fin) (fun s hI => by
    obtain ⟨a1, a2⟩ := hI
    obtain ⟨⟨t1, t2, t3, t4⟩, h4, hpj, _⟩ := id a1
    have h66 := m_here66 a1
    unfold wX11_here_0
    by_cases c : p + rn tn tb isBl p < tn
    · have hb := isBl_ff (rn_end c)
      have h256 := t4 _ c
      rw [if_neg (fun q => by rw [t1, h4, nN_le (by omega) (by omega)] at q; omega)]
      simp only [show zin (s.1 42 4) 400 = true from by rw [h4]; exact zin_nI (by omega) (by omega), zchk_t]
      rw [show s.1 43 (s.1 42 4).toNatClampNeg = nI (tb (p + rn tn tb isBl p)) from by rw [h4, nI_cl (by omega)]; exact t2 _ c]
      rw [if_neg (show ¬ nI (tb (p + rn tn tb isBl p)) = (32 : Int32) from fun e => hb.2.2 ((nN_eq (b := 32) (by omega) (by omega)).mp e)), if_neg (show ¬ nI (tb (p + rn tn tb isBl p)) = (9 : Int32) from fun e => hb.1 ((nN_eq (b := 9) (by omega) (by omega)).mp e)), if_neg (show ¬ nI (tb (p + rn tn tb isBl p)) = (10 : Int32) from fun e => hb.2.1 ((nN_eq (b := 10) (by omega) (by omega)).mp e)), h66]
      exact ⟨_, rfl, rfl, a1, a2⟩
    · rw [if_pos (by rw [t1, h4]; exact (nN_le (by omega) (by omega)).mpr (by omega)), h66]
      exact ⟨_, rfl, rfl, a1, a2⟩) (s := g) ⟨hX, mw_rfl _⟩
  exact ⟨r.2, by rw [w, ← e1], e2, e3⟩
theorem m_wordSize (hX : rdX tn tb p g) : ∃ h, nX11_wordSize g = some (nI (rn tn tb isLt (sk tn tb p)), h) ∧ rdX tn tb (sk tn tb p) h ∧ mw wP4 g h := by
  obtain ⟨h, w, a1, a2⟩ := m_here hX
  have hsk := sk_le (tb := tb) hX.2.2.1
  have hl := rn_le (tn := tn) (tb := tb) isLt (sk tn tb p)
  obtain ⟨⟨t1, t2, t3, t4⟩, h4, _, _⟩ := id a1
  refine ⟨h, ?_, a1, a2⟩
  unfold nX11_wordSize
  rw [w, Option.bind_some]
  dsimp only
  rw [h4]
  by_cases c : sk tn tb p < tn
  · have hne : ¬ chr tn tb (sk tn tb p) = -1 := fun e => by
      have := t4 _ c
      rw [chr_in c, nI_m1, nN_eqm (by omega)] at e
      exact e
    refine wh_seq (fun j => nI (sk tn tb p + j)) (rn tn tb isLt (sk tn tb p)) (fun j hj => ?_) ?_
    · have hb := rn_in hj
      have h256 := t4 (sk tn tb p + j) (by omega)
      unfold isLt at hb
      rw [Bool.and_eq_true, decide_eq_true_eq, decide_eq_true_eq] at hb
      dsimp only [wX11_wordSize_10]
      rw [if_neg hne, t1, if_neg (fun q => by rw [nN_le (by omega) (by omega)] at q; omega), zchk_t (zin_nI (by omega) (by omega)), nI_cl (by omega), t2 _ (by omega), if_neg (show ¬ nI (tb (sk tn tb p + j)) < (97 : Int32) from fun e => by have := (nN_lt (b := 97) (by omega) (by omega)).mp e; omega), zchk_t (zin_nI (by omega) (by omega)), if_neg (show ¬ (122 : Int32) < nI (tb (sk tn tb p + j)) from fun e => by have := (nN_lt (a := 122) (by omega) (by omega)).mp e; omega), nI_s]
      rfl
    · have hsub : nI (sk tn tb p + rn tn tb isLt (sk tn tb p)) - nI (sk tn tb p) = nI (rn tn tb isLt (sk tn tb p)) := by
        rw [nI_sub (by omega)]; congr 1; omega
      dsimp only [wX11_wordSize_10]
      rw [if_neg hne, t1, h4, hsub]
      by_cases d : sk tn tb p + rn tn tb isLt (sk tn tb p) < tn
      · have hb := isLt_ff (rn_end d)
        have h256 := t4 _ d
        rw [if_neg (fun q => by rw [nN_le (by omega) (by omega)] at q; omega), zchk_t (zin_nI (by omega) (by omega)), nI_cl (by omega), t2 _ d]
        by_cases d1 : tb (sk tn tb p + rn tn tb isLt (sk tn tb p)) < 97
        · rw [if_pos (show nI (tb (sk tn tb p + rn tn tb isLt (sk tn tb p))) < (97 : Int32) from (nN_lt (b := 97) (by omega) (by omega)).mpr d1)]
          rfl
        · rw [if_neg (show ¬ nI (tb (sk tn tb p + rn tn tb isLt (sk tn tb p))) < (97 : Int32) from fun e => d1 ((nN_lt (b := 97) (by omega) (by omega)).mp e)), zchk_t (zin_nI (by omega) (by omega)), if_pos (show (122 : Int32) < nI (tb (sk tn tb p + rn tn tb isLt (sk tn tb p))) from (nN_lt (a := 122) (by omega) (by omega)).mpr (by omega))]
          rfl
      · rw [if_pos ((nN_le (by omega) (by omega)).mpr (by omega))]
        rfl
  · refine wh_out ?_
    unfold wX11_wordSize_10
    rw [if_pos (chr_out c), h4, Int32.sub_self, show rn tn tb isLt (sk tn tb p) = 0 by omega]
    rfl
/-- the reference compares a word -/
theorem mwd_cmp {len k : Nat} {step : Int32 → Option (Int32 ⊕ (Int32 × zS))} (hX : rdX tn tb s g) (hk : k < 9) (hlen : (wdL k).length = len) (h1 : ∀ i, i < len → s + i < tn → step (nI i) = if nI (tb (s + i)) = nI ((wdL k).getD i 0) then some (.inl (nI (i + 1))) else zex (some (0, g))) (h3 : step (nI len) = some (.inr (1, g))) : (if nI (rn tn tb isLt s) = nI len then wh step (0 : Int32) else some (0, g)) = some (if wd tn tb s = wdL k then 1 else 0, g) := by
  have t2 := hX.1.2.2.1
  have hrl := rn_le (tn := tn) (tb := tb) isLt s
  have hp := hX.2.2.1
  have hL : ∀ k, k < 9 → 0 < (wdL k).length ∧ (wdL k).length < 7 := by decide
  have hL2 := hL k hk
  have h256 : ∀ i, i < len → (wdL k).getD i 0 < 256 := fun i hi => by
    have := wdL_lt k hk i (by omega)
    unfold isLt at this
    rw [Bool.and_eq_true, decide_eq_true_eq, decide_eq_true_eq] at this
    omega
  by_cases q : rn tn tb isLt s = len
  · rw [if_pos (by rw [q])]
    have hin : ∀ i, i < len → s + i < tn := fun i hi => by omega
    have key := wh_fsB (step := step) (fun i => !decide (tb (s + i) = (wdL k).getD i 0)) len (fun i => nI i) (1, g) (fun _ => (0, g)) (fun i hi hp => ?_) (fun i hi hp => ?_) h3
    · rw [show (0 : Int32) = nI 0 from rfl, key]
      obtain ⟨f1, f2, f3⟩ := fstB_spec (fun i => !decide (tb (s + i) = (wdL k).getD i 0)) len
      by_cases c : fstB (fun i => !decide (tb (s + i) = (wdL k).getD i 0)) len < len
      · rw [if_pos c, if_neg (fun e => ?_)]
        · rfl
        · have := f3 c
          rw [Bool.not_eq_true', decide_eq_false_iff_not] at this
          exact this ((wd_eq.mp e).2 _ (by omega))
      · rw [if_neg c, if_pos]
        refine wd_eq.mpr ⟨by omega, fun i hi => ?_⟩
        have := f2 i (by omega)
        rw [Bool.not_eq_false', decide_eq_true_eq] at this
        exact this
    · rw [Bool.not_eq_false', decide_eq_true_eq] at hp
      rw [h1 i hi (hin i hi), if_pos (by rw [hp])]
    · rw [Bool.not_eq_true', decide_eq_false_iff_not] at hp
      have := hX.1.2.2.2 _ (hin i hi)
      have := h256 i hi
      rw [h1 i hi (hin i hi), if_neg (fun e => hp ((nN_eq (by omega) (by omega)).mp e))]
      rfl
  · rw [if_neg (fun e => q ((nN_eq (by omega) (by omega)).mp e)), if_neg (fun e => q (by rw [(wd_eq.mp e).1, hlen]))]
theorem m_is_910 (hX : rdX tn tb p g) : ∃ h, nX11_is_910 g = some (if wd tn tb (sk tn tb p) = wdL 0 then 1 else 0, h) ∧ rdX tn tb (sk tn tb p) h ∧ mw wP4 g h := by
  obtain ⟨h, w, a1, a2⟩ := m_wordSize hX
  have hsk := sk_le (tb := tb) hX.2.2.1
  have hlen : nJ0_length_8abf5_910 = some (nI 5) := by decide
  have hch : ∀ i, i < 5 → nJ0_charAt_5068e_910 (nI i) = some (nI ((wdL 0).getD i 0)) := by decide
  refine ⟨h, ?_, a1, a2⟩
  unfold nX11_is_910
  rw [w, Option.bind_some, hlen, Option.bind_some]
  refine mwd_cmp (len := 5) (k := 0) a1 (by omega) rfl (fun i hi hin => ?_) ?_
  · unfold wX11_is_910_15
    have hin2 := hin
    rw [hlen, Option.bind_some, if_neg (fun q => by rw [nN_le (by omega) (by omega)] at q; omega), a1.2.1, nN_add, zchk_t (zin_nI (by have := a1.1.2.2.1; omega) (by omega)), hch i hi, Option.bind_some, nI_cl (by have := a1.1.2.2.1; omega), a1.1.2.1 _ hin, nI_s]
  · unfold wX11_is_910_15
    rw [hlen, Option.bind_some, if_pos (Int32.le_refl _)]
    rfl
theorem m_is_911 (hX : rdX tn tb p g) : ∃ h, nX11_is_911 g = some (if wd tn tb (sk tn tb p) = wdL 1 then 1 else 0, h) ∧ rdX tn tb (sk tn tb p) h ∧ mw wP4 g h := by
  obtain ⟨h, w, a1, a2⟩ := m_wordSize hX
  have hsk := sk_le (tb := tb) hX.2.2.1
  have hlen : nJ0_length_8abf5_911 = some (nI 5) := by decide
  have hch : ∀ i, i < 5 → nJ0_charAt_5068e_911 (nI i) = some (nI ((wdL 1).getD i 0)) := by decide
  refine ⟨h, ?_, a1, a2⟩
  unfold nX11_is_911
  rw [w, Option.bind_some, hlen, Option.bind_some]
  refine mwd_cmp (len := 5) (k := 1) a1 (by omega) rfl (fun i hi hin => ?_) ?_
  · unfold wX11_is_911_15
    have hin2 := hin
    rw [hlen, Option.bind_some, if_neg (fun q => by rw [nN_le (by omega) (by omega)] at q; omega), a1.2.1, nN_add, zchk_t (zin_nI (by have := a1.1.2.2.1; omega) (by omega)), hch i hi, Option.bind_some, nI_cl (by have := a1.1.2.2.1; omega), a1.1.2.1 _ hin, nI_s]
  · unfold wX11_is_911_15
    rw [hlen, Option.bind_some, if_pos (Int32.le_refl _)]
    rfl
theorem m_is_912 (hX : rdX tn tb p g) : ∃ h, nX11_is_912 g = some (if wd tn tb (sk tn tb p) = wdL 2 then 1 else 0, h) ∧ rdX tn tb (sk tn tb p) h ∧ mw wP4 g h := by
  obtain ⟨h, w, a1, a2⟩ := m_wordSize hX
  have hsk := sk_le (tb := tb) hX.2.2.1
  have hlen : nJ0_length_8abf5_912 = some (nI 6) := by decide
  have hch : ∀ i, i < 6 → nJ0_charAt_5068e_912 (nI i) = some (nI ((wdL 2).getD i 0)) := by decide
  refine ⟨h, ?_, a1, a2⟩
  unfold nX11_is_912
  rw [w, Option.bind_some, hlen, Option.bind_some]
  refine mwd_cmp (len := 6) (k := 2) a1 (by omega) rfl (fun i hi hin => ?_) ?_
  · unfold wX11_is_912_15
    have hin2 := hin
    rw [hlen, Option.bind_some, if_neg (fun q => by rw [nN_le (by omega) (by omega)] at q; omega), a1.2.1, nN_add, zchk_t (zin_nI (by have := a1.1.2.2.1; omega) (by omega)), hch i hi, Option.bind_some, nI_cl (by have := a1.1.2.2.1; omega), a1.1.2.1 _ hin, nI_s]
  · unfold wX11_is_912_15
    rw [hlen, Option.bind_some, if_pos (Int32.le_refl _)]
    rfl
theorem m_is_913 (hX : rdX tn tb p g) : ∃ h, nX11_is_913 g = some (if wd tn tb (sk tn tb p) = wdL 3 then 1 else 0, h) ∧ rdX tn tb (sk tn tb p) h ∧ mw wP4 g h := by
  obtain ⟨h, w, a1, a2⟩ := m_wordSize hX
  have hsk := sk_le (tb := tb) hX.2.2.1
  have hlen : nJ0_length_8abf5_913 = some (nI 6) := by decide
  have hch : ∀ i, i < 6 → nJ0_charAt_5068e_913 (nI i) = some (nI ((wdL 3).getD i 0)) := by decide
  refine ⟨h, ?_, a1, a2⟩
  unfold nX11_is_913
  rw [w, Option.bind_some, hlen, Option.bind_some]
  refine mwd_cmp (len := 6) (k := 3) a1 (by omega) rfl (fun i hi hin => ?_) ?_
  · unfold wX11_is_913_15
    have hin2 := hin
    rw [hlen, Option.bind_some, if_neg (fun q => by rw [nN_le (by omega) (by omega)] at q; omega), a1.2.1, nN_add, zchk_t (zin_nI (by have := a1.1.2.2.1; omega) (by omega)), hch i hi, Option.bind_some, nI_cl (by have := a1.1.2.2.1; omega), a1.1.2.1 _ hin, nI_s]
  · unfold wX11_is_913_15
    rw [hlen, Option.bind_some, if_pos (Int32.le_refl _)]
    rfl
theorem m_is_914 (hX : rdX tn tb p g) : ∃ h, nX11_is_914 g = some (if wd tn tb (sk tn tb p) = wdL 4 then 1 else 0, h) ∧ rdX tn tb (sk tn tb p) h ∧ mw wP4 g h := by
  obtain ⟨h, w, a1, a2⟩ := m_wordSize hX
  have hsk := sk_le (tb := tb) hX.2.2.1
  have hlen : nJ0_length_8abf5_914 = some (nI 5) := by decide
  have hch : ∀ i, i < 5 → nJ0_charAt_5068e_914 (nI i) = some (nI ((wdL 4).getD i 0)) := by decide
  refine ⟨h, ?_, a1, a2⟩
  unfold nX11_is_914
  rw [w, Option.bind_some, hlen, Option.bind_some]
  refine mwd_cmp (len := 5) (k := 4) a1 (by omega) rfl (fun i hi hin => ?_) ?_
  · unfold wX11_is_914_15
    have hin2 := hin
    rw [hlen, Option.bind_some, if_neg (fun q => by rw [nN_le (by omega) (by omega)] at q; omega), a1.2.1, nN_add, zchk_t (zin_nI (by have := a1.1.2.2.1; omega) (by omega)), hch i hi, Option.bind_some, nI_cl (by have := a1.1.2.2.1; omega), a1.1.2.1 _ hin, nI_s]
  · unfold wX11_is_914_15
    rw [hlen, Option.bind_some, if_pos (Int32.le_refl _)]
    rfl
theorem m_is_915 (hX : rdX tn tb p g) : ∃ h, nX11_is_915 g = some (if wd tn tb (sk tn tb p) = wdL 5 then 1 else 0, h) ∧ rdX tn tb (sk tn tb p) h ∧ mw wP4 g h := by
  obtain ⟨h, w, a1, a2⟩ := m_wordSize hX
  have hsk := sk_le (tb := tb) hX.2.2.1
  have hlen : nJ0_length_8abf5_915 = some (nI 4) := by decide
  have hch : ∀ i, i < 4 → nJ0_charAt_5068e_915 (nI i) = some (nI ((wdL 5).getD i 0)) := by decide
  refine ⟨h, ?_, a1, a2⟩
  unfold nX11_is_915
  rw [w, Option.bind_some, hlen, Option.bind_some]
  refine mwd_cmp (len := 4) (k := 5) a1 (by omega) rfl (fun i hi hin => ?_) ?_
  · unfold wX11_is_915_15
    have hin2 := hin
    rw [hlen, Option.bind_some, if_neg (fun q => by rw [nN_le (by omega) (by omega)] at q; omega), a1.2.1, nN_add, zchk_t (zin_nI (by have := a1.1.2.2.1; omega) (by omega)), hch i hi, Option.bind_some, nI_cl (by have := a1.1.2.2.1; omega), a1.1.2.1 _ hin, nI_s]
  · unfold wX11_is_915_15
    rw [hlen, Option.bind_some, if_pos (Int32.le_refl _)]
    rfl
theorem m_is_916 (hX : rdX tn tb p g) : ∃ h, nX11_is_916 g = some (if wd tn tb (sk tn tb p) = wdL 6 then 1 else 0, h) ∧ rdX tn tb (sk tn tb p) h ∧ mw wP4 g h := by
  obtain ⟨h, w, a1, a2⟩ := m_wordSize hX
  have hsk := sk_le (tb := tb) hX.2.2.1
  have hlen : nJ0_length_8abf5_916 = some (nI 3) := by decide
  have hch : ∀ i, i < 3 → nJ0_charAt_5068e_916 (nI i) = some (nI ((wdL 6).getD i 0)) := by decide
  refine ⟨h, ?_, a1, a2⟩
  unfold nX11_is_916
  rw [w, Option.bind_some, hlen, Option.bind_some]
  refine mwd_cmp (len := 3) (k := 6) a1 (by omega) rfl (fun i hi hin => ?_) ?_
  · unfold wX11_is_916_15
    have hin2 := hin
    rw [hlen, Option.bind_some, if_neg (fun q => by rw [nN_le (by omega) (by omega)] at q; omega), a1.2.1, nN_add, zchk_t (zin_nI (by have := a1.1.2.2.1; omega) (by omega)), hch i hi, Option.bind_some, nI_cl (by have := a1.1.2.2.1; omega), a1.1.2.1 _ hin, nI_s]
  · unfold wX11_is_916_15
    rw [hlen, Option.bind_some, if_pos (Int32.le_refl _)]
    rfl
theorem m_is_917 (hX : rdX tn tb p g) : ∃ h, nX11_is_917 g = some (if wd tn tb (sk tn tb p) = wdL 7 then 1 else 0, h) ∧ rdX tn tb (sk tn tb p) h ∧ mw wP4 g h := by
  obtain ⟨h, w, a1, a2⟩ := m_wordSize hX
  have hsk := sk_le (tb := tb) hX.2.2.1
  have hlen : nJ0_length_8abf5_917 = some (nI 2) := by decide
  have hch : ∀ i, i < 2 → nJ0_charAt_5068e_917 (nI i) = some (nI ((wdL 7).getD i 0)) := by decide
  refine ⟨h, ?_, a1, a2⟩
  unfold nX11_is_917
  rw [w, Option.bind_some, hlen, Option.bind_some]
  refine mwd_cmp (len := 2) (k := 7) a1 (by omega) rfl (fun i hi hin => ?_) ?_
  · unfold wX11_is_917_15
    have hin2 := hin
    rw [hlen, Option.bind_some, if_neg (fun q => by rw [nN_le (by omega) (by omega)] at q; omega), a1.2.1, nN_add, zchk_t (zin_nI (by have := a1.1.2.2.1; omega) (by omega)), hch i hi, Option.bind_some, nI_cl (by have := a1.1.2.2.1; omega), a1.1.2.1 _ hin, nI_s]
  · unfold wX11_is_917_15
    rw [hlen, Option.bind_some, if_pos (Int32.le_refl _)]
    rfl
theorem m_is_918 (hX : rdX tn tb p g) : ∃ h, nX11_is_918 g = some (if wd tn tb (sk tn tb p) = wdL 8 then 1 else 0, h) ∧ rdX tn tb (sk tn tb p) h ∧ mw wP4 g h := by
  obtain ⟨h, w, a1, a2⟩ := m_wordSize hX
  have hsk := sk_le (tb := tb) hX.2.2.1
  have hlen : nJ0_length_8abf5_918 = some (nI 3) := by decide
  have hch : ∀ i, i < 3 → nJ0_charAt_5068e_918 (nI i) = some (nI ((wdL 8).getD i 0)) := by decide
  refine ⟨h, ?_, a1, a2⟩
  unfold nX11_is_918
  rw [w, Option.bind_some, hlen, Option.bind_some]
  refine mwd_cmp (len := 3) (k := 8) a1 (by omega) rfl (fun i hi hin => ?_) ?_
  · unfold wX11_is_918_15
    have hin2 := hin
    rw [hlen, Option.bind_some, if_neg (fun q => by rw [nN_le (by omega) (by omega)] at q; omega), a1.2.1, nN_add, zchk_t (zin_nI (by have := a1.1.2.2.1; omega) (by omega)), hch i hi, Option.bind_some, nI_cl (by have := a1.1.2.2.1; omega), a1.1.2.1 _ hin, nI_s]
  · unfold wX11_is_918_15
    rw [hlen, Option.bind_some, if_pos (Int32.le_refl _)]
    rfl
theorem m_takes_911 (hX : rdX tn tb p g) : (g.1 42 5 = -1 → ∃ h, nX11_takes_911 g = some (if wd tn tb (sk tn tb p) = wdL 1 then 1 else 0, h) ∧ rdX tn tb (if wd tn tb (sk tn tb p) = wdL 1 then sk tn tb p + 5 else sk tn tb p) h ∧ mw wP4 g h) ∧ (g.1 42 5 ≠ -1 → nX11_takes_911 g = some (0, g)) := by
  have hsk := sk_le (tb := tb) hX.2.2.1
  have hlen : nJ0_length_8abf5_911 = some (nI 5) := by decide
  have hrl := rn_le (tn := tn) (tb := tb) isLt (sk tn tb p)
  unfold nX11_takes_911
  constructor
  · intro h5
    obtain ⟨h, w, a1, a2⟩ := m_is_911 hX
    rw [if_pos h5, w, Option.bind_some]
    by_cases q : wd tn tb (sk tn tb p) = wdL 1
    · have hl := (wd_eq.mp q).1
      have hl2 : (wdL 1).length = 5 := rfl
      rw [if_pos q, if_neg n01, hlen, Option.bind_some, a1.2.1, nN_add, if_pos q]
      refine ⟨_, rfl, ?_, mw_tr a2 (mw_zi ⟨rfl, rfl⟩ _ _)⟩
      exact rdX_mv a1 (by omega)
    · rw [if_neg q, if_pos rfl, if_neg q]
      exact ⟨h, rfl, a1, a2⟩
  · intro h5
    rw [if_neg h5]
theorem m_takes_912 (hX : rdX tn tb p g) : (g.1 42 5 = -1 → ∃ h, nX11_takes_912 g = some (if wd tn tb (sk tn tb p) = wdL 2 then 1 else 0, h) ∧ rdX tn tb (if wd tn tb (sk tn tb p) = wdL 2 then sk tn tb p + 6 else sk tn tb p) h ∧ mw wP4 g h) ∧ (g.1 42 5 ≠ -1 → nX11_takes_912 g = some (0, g)) := by
  have hsk := sk_le (tb := tb) hX.2.2.1
  have hlen : nJ0_length_8abf5_912 = some (nI 6) := by decide
  have hrl := rn_le (tn := tn) (tb := tb) isLt (sk tn tb p)
  unfold nX11_takes_912
  constructor
  · intro h5
    obtain ⟨h, w, a1, a2⟩ := m_is_912 hX
    rw [if_pos h5, w, Option.bind_some]
    by_cases q : wd tn tb (sk tn tb p) = wdL 2
    · have hl := (wd_eq.mp q).1
      have hl2 : (wdL 2).length = 6 := rfl
      rw [if_pos q, if_neg n01, hlen, Option.bind_some, a1.2.1, nN_add, if_pos q]
      refine ⟨_, rfl, ?_, mw_tr a2 (mw_zi ⟨rfl, rfl⟩ _ _)⟩
      exact rdX_mv a1 (by omega)
    · rw [if_neg q, if_pos rfl, if_neg q]
      exact ⟨h, rfl, a1, a2⟩
  · intro h5
    rw [if_neg h5]
theorem m_takes_913 (hX : rdX tn tb p g) : (g.1 42 5 = -1 → ∃ h, nX11_takes_913 g = some (if wd tn tb (sk tn tb p) = wdL 3 then 1 else 0, h) ∧ rdX tn tb (if wd tn tb (sk tn tb p) = wdL 3 then sk tn tb p + 6 else sk tn tb p) h ∧ mw wP4 g h) ∧ (g.1 42 5 ≠ -1 → nX11_takes_913 g = some (0, g)) := by
  have hsk := sk_le (tb := tb) hX.2.2.1
  have hlen : nJ0_length_8abf5_913 = some (nI 6) := by decide
  have hrl := rn_le (tn := tn) (tb := tb) isLt (sk tn tb p)
  unfold nX11_takes_913
  constructor
  · intro h5
    obtain ⟨h, w, a1, a2⟩ := m_is_913 hX
    rw [if_pos h5, w, Option.bind_some]
    by_cases q : wd tn tb (sk tn tb p) = wdL 3
    · have hl := (wd_eq.mp q).1
      have hl2 : (wdL 3).length = 6 := rfl
      rw [if_pos q, if_neg n01, hlen, Option.bind_some, a1.2.1, nN_add, if_pos q]
      refine ⟨_, rfl, ?_, mw_tr a2 (mw_zi ⟨rfl, rfl⟩ _ _)⟩
      exact rdX_mv a1 (by omega)
    · rw [if_neg q, if_pos rfl, if_neg q]
      exact ⟨h, rfl, a1, a2⟩
  · intro h5
    rw [if_neg h5]
theorem m_takes_916 (hX : rdX tn tb p g) : (g.1 42 5 = -1 → ∃ h, nX11_takes_916 g = some (if wd tn tb (sk tn tb p) = wdL 6 then 1 else 0, h) ∧ rdX tn tb (if wd tn tb (sk tn tb p) = wdL 6 then sk tn tb p + 3 else sk tn tb p) h ∧ mw wP4 g h) ∧ (g.1 42 5 ≠ -1 → nX11_takes_916 g = some (0, g)) := by
  have hsk := sk_le (tb := tb) hX.2.2.1
  have hlen : nJ0_length_8abf5_916 = some (nI 3) := by decide
  have hrl := rn_le (tn := tn) (tb := tb) isLt (sk tn tb p)
  unfold nX11_takes_916
  constructor
  · intro h5
    obtain ⟨h, w, a1, a2⟩ := m_is_916 hX
    rw [if_pos h5, w, Option.bind_some]
    by_cases q : wd tn tb (sk tn tb p) = wdL 6
    · have hl := (wd_eq.mp q).1
      have hl2 : (wdL 6).length = 3 := rfl
      rw [if_pos q, if_neg n01, hlen, Option.bind_some, a1.2.1, nN_add, if_pos q]
      refine ⟨_, rfl, ?_, mw_tr a2 (mw_zi ⟨rfl, rfl⟩ _ _)⟩
      exact rdX_mv a1 (by omega)
    · rw [if_neg q, if_pos rfl, if_neg q]
      exact ⟨h, rfl, a1, a2⟩
  · intro h5
    rw [if_neg h5]
theorem m_takes_917 (hX : rdX tn tb p g) : (g.1 42 5 = -1 → ∃ h, nX11_takes_917 g = some (if wd tn tb (sk tn tb p) = wdL 7 then 1 else 0, h) ∧ rdX tn tb (if wd tn tb (sk tn tb p) = wdL 7 then sk tn tb p + 2 else sk tn tb p) h ∧ mw wP4 g h) ∧ (g.1 42 5 ≠ -1 → nX11_takes_917 g = some (0, g)) := by
  have hsk := sk_le (tb := tb) hX.2.2.1
  have hlen : nJ0_length_8abf5_917 = some (nI 2) := by decide
  have hrl := rn_le (tn := tn) (tb := tb) isLt (sk tn tb p)
  unfold nX11_takes_917
  constructor
  · intro h5
    obtain ⟨h, w, a1, a2⟩ := m_is_917 hX
    rw [if_pos h5, w, Option.bind_some]
    by_cases q : wd tn tb (sk tn tb p) = wdL 7
    · have hl := (wd_eq.mp q).1
      have hl2 : (wdL 7).length = 2 := rfl
      rw [if_pos q, if_neg n01, hlen, Option.bind_some, a1.2.1, nN_add, if_pos q]
      refine ⟨_, rfl, ?_, mw_tr a2 (mw_zi ⟨rfl, rfl⟩ _ _)⟩
      exact rdX_mv a1 (by omega)
    · rw [if_neg q, if_pos rfl, if_neg q]
      exact ⟨h, rfl, a1, a2⟩
  · intro h5
    rw [if_neg h5]
end Sg
