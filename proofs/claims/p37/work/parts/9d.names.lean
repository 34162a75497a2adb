
/-! ===== read: names and digits ===== -/
section Nm
variable {g h k : zS} {tn : Nat} {tb : Nat → Nat} {s p : Nat} {P : zPl}
/-- a name stands there: 1 to 6 letters, none of the nine words -/
noncomputable def isNm (tn : Nat) (tb : Nat → Nat) (s : Nat) : Bool := (decide (0 < rn tn tb isLt s) && decide (rn tn tb isLt s ≤ 6)) && dB (∀ k, k < 9 → wd tn tb s ≠ wdL k)
theorem isNm_iff : isNm tn tb s = true ↔ (0 < rn tn tb isLt s ∧ rn tn tb isLt s ≤ 6) ∧ ∀ k, k < 9 → wd tn tb s ≠ wdL k := by
  unfold isNm
  rw [Bool.and_eq_true, Bool.and_eq_true, decide_eq_true_eq, decide_eq_true_eq, dB_t]
theorem k9 {q : Nat → Prop} : (∀ k, k < 9 → q k) ↔ (q 0 ∧ q 1 ∧ q 2 ∧ q 3 ∧ q 4 ∧ q 5 ∧ q 6 ∧ q 7 ∧ q 8) := by
  constructor
  · intro h
    exact ⟨h 0 (by omega), h 1 (by omega), h 2 (by omega), h 3 (by omega), h 4 (by omega), h 5 (by omega), h 6 (by omega), h 7 (by omega), h 8 (by omega)⟩
  · rintro ⟨h0, h1, h2, h3, h4, h5, h6, h7, h8⟩ k hk
    have hc : k = 0 ∨ k = 1 ∨ k = 2 ∨ k = 3 ∨ k = 4 ∨ k = 5 ∨ k = 6 ∨ k = 7 ∨ k = 8 := by omega
    rcases hc with rfl | rfl | rfl | rfl | rfl | rfl | rfl | rfl | rfl <;> assumption
theorem isName_86 (hA : tkA tn tb s g) (b : Bool) : jX7_isName_86 (if b then 1 else 0) g = some (if b = false ∧ 0 < rn tn tb isLt s ∧ rn tn tb isLt s ≤ 6 then 1 else 0) := by
  obtain ⟨hT, hs, h2, h3⟩ := hA
  have t2 := hT.2.1
  have hte := te_le (tb := tb) hs
  have hsb : nI (te tn tb s) - nI s = nI (te tn tb s - s) := nI_sub (by omega)
  have hrl := rn_le (tn := tn) (tb := tb) isLt s
  unfold jX7_isName_86
  rw [h2, e_at hT s (by omega), Option.bind_some, h3, hsb]
  by_cases c : s < tn
  · have h256 := chr_lt hT c
    rw [chr_in c, e_isLetter h256, Option.bind_some]
    by_cases c1 : isLt (tb s) = true
    · have hr := (rn_pos (tb := tb) c).mpr c1
      have e : te tn tb s - s = rn tn tb isLt s := by
        unfold te
        rw [if_pos c, if_pos c1]
        omega
      rw [if_pos c1, if_neg n01, e]
      by_cases c2 : rn tn tb isLt s ≤ 6
      · rw [if_neg (show ¬ (6 : Int32) < nI (rn tn tb isLt s) from fun e => by have := (nN_lt (a := 6) (by omega) (by omega)).mp e; omega)]
        cases b with
        | true => rw [if_neg (show ¬ (if true = true then (1 : Int32) else 0) = 0 by decide), if_neg (fun e => by cases e.1)]
        | false => rw [if_pos (show (if false = true then (1 : Int32) else 0) = 0 by decide), if_pos ⟨rfl, hr, c2⟩]
      · rw [if_pos (show (6 : Int32) < nI (rn tn tb isLt s) from (nN_lt (a := 6) (by omega) (by omega)).mpr (by omega)), if_neg (fun e => c2 e.2.2)]
    · have hr : ¬ 0 < rn tn tb isLt s := fun e => c1 ((rn_pos (tb := tb) c).mp e)
      rw [if_neg c1, if_pos rfl, if_neg (fun e => hr e.2.1)]
  · rw [chr_out c, lt_m1, Option.bind_some, if_pos rfl, if_neg (fun e => by omega)]
theorem e_isName (hA : tkA tn tb s g) : nX7_isName g = some (if isNm tn tb s then 1 else 0) := by
  have e81 : (∃ k, k < 9 ∧ wd tn tb s = wdL k) → jX7_isName_81 g = some (if isNm tn tb s then 1 else 0) := fun ⟨k, hk, e⟩ => by
    have h86 := isName_86 hA true
    unfold jX7_isName_81
    rw [if_pos rfl] at h86
    rw [h86, if_neg (fun q => by cases q.1), if_neg]
    rw [isNm_iff]
    exact fun q => q.2 k hk e
  unfold nX7_isName
  rw [e_isWord_900 hA, Option.bind_some]
  by_cases c0 : wd tn tb s = wdL 0
  · rw [if_pos c0, if_neg n01, e81 ⟨0, by omega, c0⟩]
  rw [if_neg c0, if_pos rfl, e_isWord_901 hA, Option.bind_some]
  by_cases c1 : wd tn tb s = wdL 1
  · rw [if_pos c1, if_neg n01, e81 ⟨1, by omega, c1⟩]
  rw [if_neg c1, if_pos rfl, e_isWord_902 hA, Option.bind_some]
  by_cases c2 : wd tn tb s = wdL 2
  · rw [if_pos c2, if_neg n01, e81 ⟨2, by omega, c2⟩]
  rw [if_neg c2, if_pos rfl, e_isWord_903 hA, Option.bind_some]
  by_cases c3 : wd tn tb s = wdL 3
  · rw [if_pos c3, if_neg n01, e81 ⟨3, by omega, c3⟩]
  rw [if_neg c3, if_pos rfl, e_isWord_904 hA, Option.bind_some]
  by_cases c4 : wd tn tb s = wdL 4
  · rw [if_pos c4, if_neg n01, e81 ⟨4, by omega, c4⟩]
  rw [if_neg c4, if_pos rfl, e_isWord_905 hA, Option.bind_some]
  by_cases c5 : wd tn tb s = wdL 5
  · rw [if_pos c5, if_neg n01, e81 ⟨5, by omega, c5⟩]
  rw [if_neg c5, if_pos rfl, e_isWord_906 hA, Option.bind_some]
  by_cases c6 : wd tn tb s = wdL 6
  · rw [if_pos c6, if_neg n01, e81 ⟨6, by omega, c6⟩]
  rw [if_neg c6, if_pos rfl, e_isWord_907 hA, Option.bind_some]
  by_cases c7 : wd tn tb s = wdL 7
  · rw [if_pos c7, if_neg n01, e81 ⟨7, by omega, c7⟩]
  rw [if_neg c7, if_pos rfl, e_isWord_908 hA, Option.bind_some]
  by_cases c8 : wd tn tb s = wdL 8
  · rw [if_pos c8, if_neg n01, e81 ⟨8, by omega, c8⟩]
  have h86 := isName_86 hA false
  rw [if_neg (by decide)] at h86
  rw [if_neg c8, if_pos rfl, h86]
  have hno : ∀ k, k < 9 → wd tn tb s ≠ wdL k := k9.mpr ⟨c0, c1, c2, c3, c4, c5, c6, c7, c8⟩
  by_cases q : 0 < rn tn tb isLt s ∧ rn tn tb isLt s ≤ 6
  · rw [if_pos ⟨rfl, q⟩, if_pos (isNm_iff.mpr ⟨q, hno⟩)]
  · rw [if_neg (fun e => q e.2), if_neg (fun e => q (isNm_iff.mp e).1)]
theorem sk_sk {p : Nat} (hp : p ≤ tn) : sk tn tb (sk tn tb p) = sk tn tb p := by
  have hl := rn_le (tn := tn) (tb := tb) isBl (sk tn tb p)
  have hs := sk_le (tb := tb) hp
  apply Nat.le_antisymm _ (sk_le hs.2).1
  apply Nat.le_of_not_lt
  intro h
  have h0 : 0 < rn tn tb isBl (sk tn tb p) := by unfold sk at h ⊢; omega
  have hlt : sk tn tb p < tn := by omega
  have h1 := (rn_pos (tb := tb) hlt).mp h0
  have h2 := rn_end (tn := tn) (tb := tb) (c := isBl) (p := p) (by unfold sk at hlt; exact hlt)
  unfold sk at h1
  rw [h2] at h1
  cases h1
theorem m_isName (hX : rdX tn tb p g) : ∃ h, nX11_isName g = some (if isNm tn tb (sk tn tb p) then 1 else 0, h) ∧ rdX tn tb (sk tn tb p) h ∧ mw wP4 g h := by
  obtain ⟨h, w, a1, a2⟩ := m_wordSize hX
  have hsk := sk_le (tb := tb) hX.2.2.1
  have hss := sk_sk (tb := tb) hX.2.2.1
  have ht := hX.1.2.2.1
  have hrl := rn_le (tn := tn) (tb := tb) isLt (sk tn tb p)
  unfold nX11_isName
  rw [w, Option.bind_some]
  dsimp only
  by_cases z : rn tn tb isLt (sk tn tb p) = 0
  · rw [if_pos ((nN_eq0 (by omega)).mpr z), if_neg (fun e => by have := (isNm_iff.mp e).1; omega)]
    exact ⟨h, rfl, a1, a2⟩
  rw [if_neg (fun e => z ((nN_eq0 (by omega)).mp e))]
  by_cases z2 : 6 < rn tn tb isLt (sk tn tb p)
  · rw [if_pos (show (6 : Int32) < nI (rn tn tb isLt (sk tn tb p)) from (nN_lt (a := 6) (by omega) (by omega)).mpr z2), if_neg (fun e => by have := (isNm_iff.mp e).1; omega)]
    exact ⟨h, rfl, a1, a2⟩
  rw [if_neg (show ¬ (6 : Int32) < nI (rn tn tb isLt (sk tn tb p)) from fun e => z2 ((nN_lt (a := 6) (by omega) (by omega)).mp e))]
  have no : (∃ k, k < 9 ∧ wd tn tb (sk tn tb p) = wdL k) → (if isNm tn tb (sk tn tb p) then (1 : Int32) else 0) = 0 := fun ⟨k, hk, e⟩ => if_neg (fun q => (isNm_iff.mp q).2 k hk e)
  obtain ⟨h0, w0, b0, d0⟩ := m_is_910 a1
  rw [hss] at b0 w0
  have m0 := mw_tr a2 d0
  rw [w0, Option.bind_some]
  dsimp only
  by_cases c0 : wd tn tb (sk tn tb p) = wdL 0
  · rw [if_pos c0, if_neg n01, no ⟨0, by omega, c0⟩]
    exact ⟨_, rfl, b0, m0⟩
  rw [if_neg c0, if_pos rfl]
  obtain ⟨h1, w1, b1, d1⟩ := m_is_911 b0
  rw [hss] at b1 w1
  have m1 := mw_tr m0 d1
  rw [w1, Option.bind_some]
  dsimp only
  by_cases c1 : wd tn tb (sk tn tb p) = wdL 1
  · rw [if_pos c1, if_neg n01, no ⟨1, by omega, c1⟩]
    exact ⟨_, rfl, b1, m1⟩
  rw [if_neg c1, if_pos rfl]
  obtain ⟨h2, w2, b2, d2⟩ := m_is_912 b1
  rw [hss] at b2 w2
  have m2 := mw_tr m1 d2
  rw [w2, Option.bind_some]
  dsimp only
  by_cases c2 : wd tn tb (sk tn tb p) = wdL 2
  · rw [if_pos c2, if_neg n01, no ⟨2, by omega, c2⟩]
    exact ⟨_, rfl, b2, m2⟩
  rw [if_neg c2, if_pos rfl]
  obtain ⟨h3, w3, b3, d3⟩ := m_is_913 b2
  rw [hss] at b3 w3
  have m3 := mw_tr m2 d3
  rw [w3, Option.bind_some]
  dsimp only
  by_cases c3 : wd tn tb (sk tn tb p) = wdL 3
  · rw [if_pos c3, if_neg n01, no ⟨3, by omega, c3⟩]
    exact ⟨_, rfl, b3, m3⟩
  rw [if_neg c3, if_pos rfl]
  obtain ⟨h4, w4, b4, d4⟩ := m_is_914 b3
  rw [hss] at b4 w4
  have m4 := mw_tr m3 d4
  rw [w4, Option.bind_some]
  dsimp only
  by_cases c4 : wd tn tb (sk tn tb p) = wdL 4
  · rw [if_pos c4, if_neg n01, no ⟨4, by omega, c4⟩]
    exact ⟨_, rfl, b4, m4⟩
  rw [if_neg c4, if_pos rfl]
  obtain ⟨h5, w5, b5, d5⟩ := m_is_915 b4
  rw [hss] at b5 w5
  have m5 := mw_tr m4 d5
  rw [w5, Option.bind_some]
  dsimp only
  by_cases c5 : wd tn tb (sk tn tb p) = wdL 5
  · rw [if_pos c5, if_neg n01, no ⟨5, by omega, c5⟩]
    exact ⟨_, rfl, b5, m5⟩
  rw [if_neg c5, if_pos rfl]
  obtain ⟨h6, w6, b6, d6⟩ := m_is_916 b5
  rw [hss] at b6 w6
  have m6 := mw_tr m5 d6
  rw [w6, Option.bind_some]
  dsimp only
  by_cases c6 : wd tn tb (sk tn tb p) = wdL 6
  · rw [if_pos c6, if_neg n01, no ⟨6, by omega, c6⟩]
    exact ⟨_, rfl, b6, m6⟩
  rw [if_neg c6, if_pos rfl]
  obtain ⟨h7, w7, b7, d7⟩ := m_is_917 b6
  rw [hss] at b7 w7
  have m7 := mw_tr m6 d7
  rw [w7, Option.bind_some]
  dsimp only
  by_cases c7 : wd tn tb (sk tn tb p) = wdL 7
  · rw [if_pos c7, if_neg n01, no ⟨7, by omega, c7⟩]
    exact ⟨_, rfl, b7, m7⟩
  rw [if_neg c7, if_pos rfl]
  obtain ⟨h8, w8, b8, d8⟩ := m_is_918 b7
  rw [hss] at b8 w8
  have m8 := mw_tr m7 d8
  rw [w8, Option.bind_some]
  dsimp only
  by_cases c8 : wd tn tb (sk tn tb p) = wdL 8
  · rw [if_pos c8, if_neg n01, no ⟨8, by omega, c8⟩]
    exact ⟨_, rfl, b8, m8⟩
  rw [if_neg c8, if_pos rfl]
  have hno : ∀ k, k < 9 → wd tn tb (sk tn tb p) ≠ wdL k := k9.mpr ⟨c0, c1, c2, c3, c4, c5, c6, c7, c8⟩
  rw [if_pos (isNm_iff.mpr ⟨by omega, hno⟩)]
  exact ⟨_, rfl, b8, m8⟩
/-- the reference's digit -/
theorem m_isDigit (hX : rdX tn tb p g) {q : Nat} (hq : q < 2147483648) : nX11_isDigit (nI q) g = some (if q < tn ∧ isDg (tb q) = true then 1 else 0) := by
  obtain ⟨⟨t1, t2, t3, t4⟩, h4, hp, _⟩ := hX
  unfold nX11_isDigit isDg
  rw [t1]
  by_cases c : q < tn
  · have h256 := t4 q c
    rw [if_neg (fun e => by rw [nN_le (by omega) (by omega)] at e; omega), zchk_t (zin_nI (by omega) (by omega)), nI_cl (by omega), t2 q c]
    by_cases c1 : 48 ≤ tb q
    · rw [if_neg (show ¬ nI (tb q) < (48 : Int32) from fun e => by have := (nN_lt (b := 48) (by omega) (by omega)).mp e; omega), zchk_t (zin_nI (by omega) (by omega))]
      by_cases c2 : tb q ≤ 57
      · rw [if_neg (show ¬ (57 : Int32) < nI (tb q) from fun e => by have := (nN_lt (a := 57) (by omega) (by omega)).mp e; omega), if_pos ⟨c, by rw [decide_eq_true c1, decide_eq_true c2]; rfl⟩]
      · rw [if_pos (show (57 : Int32) < nI (tb q) from (nN_lt (a := 57) (by omega) (by omega)).mpr (by omega)), if_neg (fun e => by rw [decide_eq_false c2, Bool.and_false] at e; cases e.2)]
    · rw [if_pos (show nI (tb q) < (48 : Int32) from (nN_lt (b := 48) (by omega) (by omega)).mpr (by omega)), if_neg (fun e => by rw [decide_eq_false c1, Bool.false_and] at e; cases e.2)]
  · rw [if_pos ((nN_le (by omega) (by omega)).mpr (by omega)), if_neg (fun e => c e.1)]
theorem rn_dg1 (hs : s < tn) (h : isDg (tb s) = true) : rn tn tb isDg s = 1 ↔ ¬ (s + 1 < tn ∧ isDg (tb (s + 1)) = true) := by
  have hl := rn_le (tn := tn) (tb := tb) isDg s
  have hp := (rn_pos (tb := tb) (c := isDg) hs).mpr h
  constructor
  · intro e q
    have := rn_end (tn := tn) (tb := tb) (c := isDg) (p := s) (by omega)
    rw [e, q.2] at this
    cases this
  · intro q
    apply Nat.le_antisymm _ hp
    apply Nat.le_of_not_lt
    intro h2
    have := rn_in (tn := tn) (tb := tb) (c := isDg) (p := s) (i := 1) h2
    exact q ⟨by omega, this⟩
theorem isDg_iff {c : Nat} : isDg c = true ↔ 48 ≤ c ∧ c ≤ 57 := by
  unfold isDg
  rw [Bool.and_eq_true, decide_eq_true_eq, decide_eq_true_eq]
theorem isLt_dg {c : Nat} (h : isDg c = true) : isLt c = false := by
  rw [isDg_iff] at h
  unfold isLt
  rw [Bool.and_eq_false_iff, decide_eq_false_iff_not]
  omega
theorem dgO_iff {lo hi : Nat} (hs : s ≤ tn) (hhi : hi ≤ 9) : dgO tn tb s lo hi ↔ s < tn ∧ isDg (tb s) = true ∧ ¬ (s + 1 < tn ∧ isDg (tb (s + 1)) = true) ∧ 48 + lo ≤ tb s ∧ tb s ≤ 48 + hi := by
  unfold dgO
  constructor
  · rintro ⟨h1, h2, h3, h4⟩
    have hd : isDg (tb s) = true := isDg_iff.mpr (by omega)
    refine ⟨h2, hd, ?_, h3, h4⟩
    rw [← rn_dg1 h2 hd]
    unfold te at h1
    rw [if_pos h2, if_neg (by rw [isLt_dg hd]; decide), if_pos hd] at h1
    omega
  · rintro ⟨h2, hd, h1, h3, h4⟩
    refine ⟨?_, h2, h3, h4⟩
    rw [← rn_dg1 h2 hd] at h1
    unfold te
    rw [if_pos h2, if_neg (by rw [isLt_dg hd]; decide), if_pos hd, h1]
    omega
/-- what the reference's reader changes -/
def wRd (c k : Nat) : Prop := (c = 42 ∧ (k = 0 ∨ (3 ≤ k ∧ k ≤ 9))) ∨ (44 ≤ c ∧ c ≤ 49)
def wP45 (c k : Nat) : Prop := c = 42 ∧ (k = 4 ∨ k = 5)
theorem rdX_5 {x : Int32} (hX : rdX tn tb p g) : rdX tn tb p (zi g 42 5 x) := ⟨rdT_mw (W := fun c k => c = 42 ∧ k = 5) (fun c k q => by omega) (mw_zi ⟨rfl, rfl⟩ _ _) hX.1, by rw [zi_else _ _ (by omega)]; exact hX.2.1, hX.2.2⟩
theorem m_wrong (hX : rdX tn tb p g) (h5 : g.1 42 5 = -1) : nX11_wrong g = some (zi g 42 5 (nI p)) := by
  unfold nX11_wrong
  rw [if_pos h5, hX.2.1]
theorem m_digit (hX : rdX tn tb p g) (h5 : g.1 42 5 = -1) {lo hi : Nat} (hlo : lo ≤ 9) (hhi : hi ≤ 9) : (dgO tn tb (sk tn tb p) lo hi → ∃ h, nX11_digit (nI lo) (nI hi) g = some (nI (tb (sk tn tb p) - 48), h) ∧ rdX tn tb (sk tn tb p + 1) h ∧ mw wP4 g h) ∧ (¬ dgO tn tb (sk tn tb p) lo hi → ∃ h, nX11_digit (nI lo) (nI hi) g = some (nI lo, h) ∧ rdX tn tb (sk tn tb p) h ∧ h.1 42 5 = nI (sk tn tb p) ∧ mw wP45 g h) := by
  obtain ⟨h, w, a1, a2⟩ := m_here hX
  have hsk := sk_le (tb := tb) hX.2.2.1
  have ht := hX.1.2.2.1
  have h5' : h.1 42 5 = -1 := by rw [a2.1 42 5 (by unfold wP4; omega)]; exact h5
  have hio := dgO_iff (tb := tb) (lo := lo) (hi := hi) hsk.2 hhi
  have hne5 : ¬ (zi h 42 5 (nI (sk tn tb p))).1 42 5 = -1 := fun e => by rw [zi_at, nI_m1, nN_eqm (by omega)] at e; exact e
  have bad : ∀ x, ∃ k, jX11_digit_56 (nI lo) x h = some (nI lo, k) ∧ rdX tn tb (sk tn tb p) k ∧ k.1 42 5 = nI (sk tn tb p) ∧ mw wP45 g k := fun x => by
    unfold jX11_digit_56 jX11_digit_60
    rw [m_wrong a1 h5', Option.bind_some, if_neg hne5]
    exact ⟨_, rfl, rdX_5 a1, zi_at _ _ _ _, mw_tr (mw_le (fun c k q => by unfold wP4 at q; unfold wP45; omega) a2) (mw_zi ⟨rfl, Or.inr rfl⟩ _ _)⟩
  unfold nX11_digit
  rw [if_pos h5, w, Option.bind_some]
  dsimp only
  rw [a1.2.1, nI_s, m_isDigit a1 (by omega), m_isDigit a1 (by omega)]
  constructor
  · intro q
    obtain ⟨q1, q2, q3, q4, q5⟩ := hio.mp q
    have h256 := a1.1.2.2.2 _ q1
    have hin : nX11_isIn (nI (tb (sk tn tb p)) - 48) (nI lo) (nI hi) = some 1 := by
      unfold nX11_isIn
      rw [dg_sub (by omega) h256, if_neg (fun e => by rw [nN_lt (by omega) (by omega)] at e; omega), if_neg (fun e => by rw [nN_lt (by omega) (by omega)] at e; omega)]
    rw [chr_in q1, if_neg (fun e => by rw [nI_m1, nN_eqm (by omega)] at e; exact e), if_pos ⟨q1, q2⟩, Option.bind_some, if_neg n01, if_neg q3, Option.bind_some, if_pos rfl, hin, Option.bind_some, if_neg n01]
    unfold jX11_digit_60
    rw [if_pos h5', a1.2.1, nI_s, dg_sub (by omega) h256]
    exact ⟨_, rfl, rdX_mv a1 (by omega), mw_tr a2 (mw_zi ⟨rfl, rfl⟩ _ _)⟩
  · intro q
    by_cases q1 : sk tn tb p < tn
    · have h256 := a1.1.2.2.2 _ q1
      rw [chr_in q1, if_neg (fun e => by rw [nI_m1, nN_eqm (by omega)] at e; exact e)]
      by_cases q2 : isDg (tb (sk tn tb p)) = true
      · rw [if_pos ⟨q1, q2⟩, Option.bind_some, if_neg n01]
        by_cases q3 : sk tn tb p + 1 < tn ∧ isDg (tb (sk tn tb p + 1)) = true
        · rw [if_pos q3, Option.bind_some, if_neg n01]
          exact bad _
        · have hd := isDg_iff.mp q2
          have hin : nX11_isIn (nI (tb (sk tn tb p)) - 48) (nI lo) (nI hi) = some 0 := by
            unfold nX11_isIn
            rw [dg_sub (by omega) h256]
            by_cases q4 : tb (sk tn tb p) - 48 < lo
            · rw [if_pos ((nN_lt (by omega) (by omega)).mpr q4)]
            · rw [if_neg (fun e => q4 ((nN_lt (by omega) (by omega)).mp e)), if_pos ((nN_lt (by omega) (by omega)).mpr (by
                apply Nat.lt_of_not_le
                intro q5
                exact q (hio.mpr ⟨q1, q2, q3, by omega, by omega⟩)))]
          rw [if_neg q3, Option.bind_some, if_pos rfl, hin, Option.bind_some, if_pos rfl]
          exact bad _
      · rw [if_neg (fun e => q2 e.2), Option.bind_some, if_pos rfl]
        exact bad _
    · rw [if_pos (chr_out q1)]
      exact bad _
end Nm
